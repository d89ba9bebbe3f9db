import java.io.IOException;

/** The document from promise 1 to its last line: its words in their order, each with a run that would fail if they were broken. */
public final class PromisesTest {
    private static final int LEAST = Integer.MIN_VALUE;
    private static final int MOST = Integer.MAX_VALUE;

    private static Document document;

    public static void main(String[] args) throws IOException {
        document = Document.between("## Promise 1:", "");
        aNewObject();
        ride();
        group();
        walk();
        part();
        take();
        give();
        come();
        stand();
        leave();
        go();
        stop();
        rain();
        ticks();
        waits();
        free();
        groupOf();
        time();
        rideOfWhatItWasMadeWith();
        rideOfWhatIsThereNow();
        rideOfWhatWas();
        window();
        row();
        count();
        notPromised();
        document.end();
        Calls.finish();
    }

    private static void aNewObject() {
        document.promise("Promise 1: A new object", "ParkRows()");
        document.says("No RIDES,")
            .due("count(1)", 0).due("rideOf(0, 0)", -1).due("row(0, false, 0)", -1).due("ride(1, 1, 0, 0, 0)", 0);
        document.says("no GROUPS,")
            .due("count(2)", 0).due("count(3)", 0).due("groupOf(0, 0)", -1).due("group(1)", 0);
        document.says("no rain.")
            .due("rain(false)", 0).due("ride(1, 1, 0, 0, 3)", 0).due("rideOf(0, 5)", 1).due("rain(true)", 1);
    }

    private static void ride() {
        document.promise("Promise 2: ride", "int ride(int seats, int round, int part, int spare, int kind)");
        document.says("A RIDE that RUNS: its number.")
            .due("ride(7, 3, 2, 5, 3)", 0).due("ride(40, 20, 40, 99, 1)", 1)
            .dueEach("rideOf(0, #)", 0, 7, 3, 2, 5, 3, 1, 0, 0, 0, 0, 0, 0, 0)
            .dueEach("rideOf(1, #)", 0, 40, 20, 40, 99, 1, 1, 0, 0, 0, 0, 0, 0, 0)
            .due("count(1)", 2)
            .due("stop(0, false)", 0)
            .due("ticks(3)", 0).due("rideOf(0, 12)", 1);
        document.says("-4 (a KIND below 0, too);")
            .due("ride(0, 1, 0, 0, 0)", -4).due("ride(1, 0, 0, 0, 0)", -4).due("ride(1, 1, -1, 0, 0)", -4)
            .due("ride(1, 1, 0, -1, 0)", -4).due("ride(1, 1, 0, 0, -1)", -4)
            .due("ride(" + LEAST + ", " + MOST + ", " + MOST + ", " + MOST + ", " + MOST + ")", -4)
            .due("ride(41, 21, 41, 100, " + LEAST + ")", -4)
            .due("count(1)", 0).due("count(14)", 7);
        document.says("-6 (a KIND above 3, a PART above SEATS, too).")
            .due("ride(41, 1, 0, 0, 0)", -6).due("ride(1, 21, 0, 0, 0)", -6).due("ride(3, 1, 4, 0, 0)", -6)
            .due("ride(1, 1, 0, 100, 0)", -6).due("ride(1, 1, 0, 0, 4)", -6)
            .due("ride(" + MOST + ", " + MOST + ", " + MOST + ", " + MOST + ", " + MOST + ")", -6)
            .due("count(1)", 0)
            .dueInOrder("ride(#, 1, 0, 0, 0)", 1, 8, 0)
            .due("ride(1, 1, 0, 0, 0)", -6)
            .due("count(1)", 8).due("count(16)", 7);
    }

    private static void group() {
        document.promise("Promise 3: group", "int group(int many)");
        document.says("A GROUP, WALKING: its number.")
            .due("group(3)", 0).due("group(8)", 1).due("group(1)", 2)
            .dueEach("groupOf(#, 0)", 0, 3, 8, 1)
            .dueEach("groupOf(#, 1)", 0, 0, 0, 0)
            .due("count(2)", 3).due("count(3)", 12);
        document.says("-4;")
            .due("group(0)", -4).due("group(-1)", -4).due("group(" + LEAST + ")", -4)
            .due("count(2)", 0).due("count(14)", 3);
        document.says("-6.")
            .due("group(9)", -6).due("group(" + MOST + ")", -6)
            .groups(0, 60, 1)
            .due("group(1)", -6)
            .due("count(2)", 60).due("count(16)", 3);
    }

    private static Calls withThreeRides(Calls calls) {
        return calls.due("ride(8, 1, 2, 0, 0)", 0).due("ride(8, 1, 2, 0, 0)", 1).due("ride(8, 1, 2, 0, 0)", 2);
    }

    private static void walk() {
        document.promise("Promise 4: walk", "int walk(int a, int b, int ticks)");
        withThreeRides(document.says("WALK between two RIDES: what it was."))
            .due("walk(0, 1, 5)", 0).due("walk(0, 1, 50)", 5).due("walk(1, 0, 6)", 50)
            .due("walk(0, 2, 4)", 0).due("walk(1, 2, 3)", 0)
            .groups(0, 1, 1)
            .due("take(0, 0)", 1).dueEach("free(0, #)", 1, 4, 3)
            .due("walk(0, 1, 0)", 6).due("walk(2, 0, 0)", 4).due("walk(2, 1, 0)", 3)
            .dueEach("free(0, #)", 1, 2, 2);
        withThreeRides(document.says("-1 (also of one);"))
            .due("walk(0, 3, 5)", -1).due("walk(3, 0, 5)", -1).due("walk(-1, 0, 5)", -1).due("walk(0, -1, 5)", -1)
            .due("walk(1, 1, 5)", -1).due("walk(3, 3, 5)", -1)
            .due("walk(1, 1, -1)", -1).due("walk(0, 3, 51)", -1)
            .due("walk(" + LEAST + ", " + MOST + ", 5)", -1)
            .due("count(11)", 9);
        withThreeRides(document.says("-4;"))
            .due("walk(0, 1, -1)", -4).due("walk(0, 1, " + LEAST + ")", -4)
            .due("count(14)", 2).due("walk(0, 1, 0)", 0);
        withThreeRides(document.says("-6."))
            .due("walk(0, 1, 51)", -6).due("walk(0, 1, " + MOST + ")", -6)
            .due("count(16)", 2).due("walk(0, 1, 0)", 0);
    }

    private static void part() {
        document.promise("Promise 5: part", "int part(int ride, int part, int spare)");
        withThreeRides(document.says("PART and SPARE of a RIDE from now on: 1."))
            .due("part(1, 8, 99)", 1).dueEach("rideOf(1, #)", 2, 8, 99)
            .due("part(1, 3, 4)", 1).dueEach("rideOf(1, #)", 2, 3, 4)
            .dueEach("window(#, 1, 1)", 0, 10, 11, 10)
            .due("group(6)", 0)
            .due("stand(0, 1)", -6).due("stand(0, 0)", 0)
            .due("part(1, 0, 0)", 1).due("window(1, 1, 1)", 0);
        withThreeRides(document.says("-1;"))
            .due("part(3, 0, 0)", -1).due("part(-1, 0, 0)", -1).due("part(3, -1, 100)", -1)
            .due("part(" + LEAST + ", 0, 0)", -1).due("part(" + MOST + ", 0, 0)", -1)
            .due("count(11)", 5);
        withThreeRides(document.says("-4;"))
            .due("part(0, -1, 0)", -4).due("part(0, 0, -1)", -4).due("part(0, -1, 100)", -4).due("part(0, 9, -1)", -4)
            .due("part(0, " + LEAST + ", 0)", -4).due("part(0, 0, " + LEAST + ")", -4)
            .due("count(14)", 6).dueEach("rideOf(0, #)", 2, 2, 0);
        withThreeRides(document.says("-6."))
            .due("part(0, 9, 0)", -6).due("part(0, 0, 100)", -6)
            .due("part(0, " + MOST + ", 0)", -6).due("part(0, 0, " + MOST + ")", -6)
            .due("count(16)", 4).dueEach("rideOf(0, #)", 2, 2, 0);
        withThreeRides(document.says("(What was GIVEN stays, even above ROOM.)"))
            .due("group(6)", 0).due("group(1)", 1)
            .due("take(0, 0)", 1)
            .due("part(0, 1, 0)", 1)
            .due("window(0, 1, 0)", 6).due("window(0, 1, 1)", 5)
            .due("groupOf(0, 4)", 1)
            .due("take(1, 0)", 2)
            .due("ticks(5)", 0)
            .due("come(0, 0)", 0).due("window(0, 1, 0)", 6);
    }

    private static void take() {
        document.promise("Promise 6: take", "int take(int group, int ride)");
        document.says("TAKING a TIME: its WINDOW.")
            .due("ride(8, 2, 2, 4, 0)", 0).due("group(4)", 0).due("group(3)", 1)
            .due("take(0, 0)", 1)
            .due("groupOf(0, 4)", 1).dueEach("time(0, 0, #)", 0, 0, 1).due("window(0, 1, 0)", 4)
            .due("take(1, 0)", 2)
            .due("groupOf(1, 4)", 1).dueEach("time(1, 0, #)", 0, 0, 2).due("window(0, 2, 0)", 3)
            .due("take(1, 0)", 3);
        Scenes.withEachDoing(document.saysSo())
            .due("take(0, 0)", 2).due("take(1, 0)", 2).due("take(2, 0)", 2).due("take(4, 0)", 3);
        Scenes.withEachDoing(document.says("-1;"))
            .due("take(5, 0)", -1).due("take(-1, 0)", -1).due("take(4, 1)", -1).due("take(4, -1)", -1).due("take(3, 1)", -1)
            .due("take(" + LEAST + ", 0)", -1).due("take(4, " + MOST + ")", -1)
            .due("count(11)", 7).due("groupOf(4, 4)", 0);
        Scenes.withEachDoing(document.says("-2 the GROUP is GONE;"))
            .due("take(3, 0)", -2)
            .due("part(0, 0, 0)", 1).due("take(3, 0)", -2)
            .due("count(12)", 2).due("groupOf(3, 4)", 0);
        Scenes.withEachDoing(document.says("-6 it has two;"))
            .due("take(4, 0)", 2).due("take(4, 0)", 3).due("take(4, 0)", -6)
            .due("part(0, 0, 0)", 1).due("take(4, 0)", -6)
            .due("count(16)", 2).due("groupOf(4, 4)", 2)
            .due("part(0, 2, 0)", 1).due("give(4, 0)", 2).due("take(4, 0)", 2);
        Scenes.withEachDoing(document.says("-3."))
            .due("part(0, 1, 1)", 1).due("take(4, 0)", -3)
            .due("count(13)", 1).due("groupOf(4, 4)", 0)
            .due("part(0, 1, 0)", 1).due("take(4, 0)", 2);
    }

    private static void give() {
        document.promise("Promise 7: give", "int give(int group, int i)");
        withThreeRides(document.says("GIVING back TIME i (0, 1) of a GROUP: its WINDOW."))
            .due("group(3)", 0).due("group(2)", 1)
            .due("take(0, 0)", 1).due("take(0, 1)", 2).due("take(1, 0)", 1)
            .due("window(0, 1, 0)", 5).due("window(1, 2, 0)", 3)
            .due("give(0, 1)", 2).due("window(1, 2, 0)", 0)
            .due("groupOf(0, 4)", 1).due("time(0, 0, 0)", 0)
            .due("take(0, 1)", 2)
            .due("give(0, 0)", 1).due("window(0, 1, 0)", 2)
            .due("groupOf(0, 4)", 1).due("time(0, 0, 0)", 1);
        withThreeRides(document.says("-1 (TIME, too)."))
            .due("group(3)", 0)
            .due("give(0, 0)", -1)
            .due("take(0, 0)", 1)
            .due("give(0, 1)", -1).due("give(0, -1)", -1).due("give(0, 2)", -1)
            .due("give(1, 0)", -1).due("give(-1, 0)", -1)
            .due("give(0, " + LEAST + ")", -1).due("give(0, " + MOST + ")", -1).due("give(" + MOST + ", 0)", -1)
            .due("count(11)", 9).due("window(0, 1, 0)", 3).due("groupOf(0, 4)", 1);
    }

    private static void come() {
        document.promise("Promise 8: come", "int come(int group, int ride)");
        document.says("COMING BACK: its place in that row, from 0 on.")
            .due("ride(8, 1, 2, 0, 0)", 0).groups(0, 4, 1)
            .dueEach("take(#, 0)", 0, 1, 1, 1)
            .due("ticks(5)", 0)
            .due("stand(3, 0)", 0)
            .due("come(2, 0)", 0).due("come(0, 0)", 1)
            .due("leave(2)", 0)
            .due("come(1, 0)", 1)
            .dueEach("groupOf(#, 3)", 0, 0, 1);
        Scenes.withEachDoing(document.says("-1;"))
            .due("come(5, 0)", -1).due("come(-1, 0)", -1).due("come(4, 1)", -1).due("come(4, -1)", -1).due("come(3, 1)", -1)
            .due("come(" + MOST + ", 0)", -1).due("come(4, " + LEAST + ")", -1)
            .due("count(11)", 7);
        Scenes.withEachDoing(document.says("-2 it is not WALKING;"))
            .dueEach("come(#, 0)", 0, -2, -2, -2, -2, -3)
            .due("count(12)", 4)
            .dueEach("groupOf(#, 1)", 0, 2, 3, 1, 4, 0);
        Scenes.withEachDoing(document.says("-3."))
            .due("come(4, 0)", -3)
            .due("take(4, 0)", 2).due("come(4, 0)", -3)
            .due("count(13)", 2).due("groupOf(4, 1)", 0).due("groupOf(4, 4)", 1);
    }

    private static void stand() {
        document.promise("Promise 9: stand", "int stand(int group, int ride)");
        withThreeRides(document.says("STANDING: its place in that row."))
            .groups(0, 4, 1)
            .due("stand(2, 0)", 0).due("stand(0, 0)", 1).due("stand(3, 1)", 0)
            .due("leave(2)", 0)
            .due("stand(1, 0)", 1)
            .dueEach("groupOf(#, 1)", 0, 1, 1, 0, 1)
            .dueEach("groupOf(#, 3)", 0, 0, 1, -9, 0);
        Scenes.withEachDoing(document.says("-1;"))
            .due("stand(5, 0)", -1).due("stand(-1, 0)", -1).due("stand(4, 1)", -1).due("stand(4, -1)", -1).due("stand(3, 1)", -1)
            .due("stand(" + MOST + ", 0)", -1).due("stand(4, " + LEAST + ")", -1)
            .due("count(11)", 7);
        Scenes.withEachDoing(document.says("-2;"))
            .dueEach("stand(#, 0)", 0, -2, -2, -2, -2, 1)
            .due("part(0, 8, 0)", 1).dueEach("stand(#, 0)", 0, -2, -2, -2, -2, -2)
            .due("count(12)", 9)
            .dueEach("groupOf(#, 1)", 0, 2, 3, 1, 4, 1);
        document.says("-6 it is more than SEATS less PART (it would never be ON).")
            .due("ride(8, 1, 5, 0, 0)", 0).due("group(3)", 0).due("group(4)", 1)
            .due("stand(0, 0)", 0).due("stand(1, 0)", -6)
            .due("count(16)", 1).due("groupOf(1, 1)", 0)
            .due("part(0, 4, 0)", 1).due("stand(1, 0)", 1);
    }

    private static void leave() {
        document.promise("Promise 10: leave", "int leave(int group)");
        withThreeRides(document.says("LEAVING: the RIDE."))
            .groups(0, 2, 1)
            .due("stand(0, 2)", 0).due("leave(0)", 2)
            .due("take(1, 1)", 1)
            .due("ticks(5)", 0)
            .due("come(1, 1)", 0).due("leave(1)", 1)
            .dueEach("groupOf(#, 1)", 0, 0, 0)
            .due("row(2, false, 0)", -9).due("row(1, true, 0)", -9);
        document.says("-1;")
            .due("leave(0)", -1).due("group(1)", 0)
            .due("leave(1)", -1).due("leave(-1)", -1).due("leave(" + LEAST + ")", -1).due("leave(" + MOST + ")", -1)
            .due("count(11)", 5);
        Scenes.withEachDoing(document.says("-2 it is in no row."))
            .dueEach("leave(#)", 0, 0, -2, 0, -2, -2)
            .due("count(12)", 3)
            .dueEach("groupOf(#, 1)", 0, 0, 3, 0, 4, 0);
    }

    private static void go() {
        document.promise("Promise 11: go", "int go(int group)");
        document.says("A WALKING GROUP is GONE;")
            .due("group(3)", 0).due("group(2)", 1)
            .due("go(0)", 0)
            .dueEach("groupOf(#, 1)", 0, 4, 0)
            .due("count(6)", 3);
        withThreeRides(document.says("its TIMES are given back: how many."))
            .due("group(2)", 0).due("group(3)", 1).due("group(1)", 2)
            .due("take(0, 0)", 1).due("take(0, 1)", 2).due("take(1, 0)", 1)
            .due("go(0)", 2).due("window(0, 1, 0)", 3).due("window(1, 2, 0)", 0)
            .due("go(1)", 1).due("window(0, 1, 0)", 0)
            .due("go(2)", 0)
            .dueEach("groupOf(#, 4)", 0, 0, 0, 0);
        document.says("-1;")
            .due("go(0)", -1).due("group(1)", 0)
            .due("go(1)", -1).due("go(-1)", -1).due("go(" + LEAST + ")", -1).due("go(" + MOST + ")", -1)
            .due("count(11)", 5);
        Scenes.withEachDoing(document.says("-2."))
            .due("take(0, 0)", 2)
            .dueEach("go(#)", 0, -2, -2, -2, -2, 0)
            .due("count(12)", 4).due("window(0, 2, 0)", 1)
            .dueEach("groupOf(#, 1)", 0, 2, 3, 1, 4, 4);
    }

    private static void stop() {
        document.promise("Promise 12: stop", "boolean stop(int ride, boolean on)");
        withThreeRides(document.says("A RIDE is STOPPED, or RUNS: true;"))
            .due("stop(1, true)", 1).dueEach("rideOf(#, 5)", 0, 1, 0, 1)
            .due("ticks(2)", 0).dueEach("rideOf(#, 12)", 0, 2, 0, 2)
            .due("stop(1, false)", 1).dueEach("rideOf(#, 5)", 0, 1, 1, 1)
            .due("ticks(2)", 0).dueEach("rideOf(#, 12)", 0, 4, 2, 4);
        withThreeRides(document.says("false if it was so,"))
            .due("stop(1, false)", 0).due("rideOf(1, 5)", 1)
            .due("stop(1, true)", 1).due("stop(1, true)", 0).due("rideOf(1, 5)", 0);
        withThreeRides(document.says("or there is none such."))
            .due("stop(3, true)", 0).due("stop(-1, true)", 0).due("stop(3, false)", 0)
            .due("stop(" + LEAST + ", true)", 0).due("stop(" + MOST + ", true)", 0)
            .dueEach("rideOf(#, 5)", 0, 1, 1, 1);
        document.says("(Who is ON stays ON till the ROUND ahead is over.)")
            .due("ride(2, 3, 0, 0, 0)", 0).due("group(2)", 0)
            .due("stand(0, 0)", 0)
            .due("ticks(3)", 2)
            .due("stop(0, true)", 1)
            .due("ticks(2)", 0).due("groupOf(0, 1)", 3).due("rideOf(0, 8)", 2)
            .due("ticks(1)", 0).due("groupOf(0, 1)", 0).due("rideOf(0, 8)", 0);
    }

    private static void rain() {
        document.promise("Promise 13: rain", "boolean rain(boolean on)");
        document.says("It rains, or not: true;")
            .due("ride(1, 1, 0, 0, 3)", 0).due("ride(1, 1, 0, 0, 0)", 1)
            .due("rain(true)", 1).dueEach("rideOf(#, 5)", 0, 0, 1)
            .due("rain(false)", 1).dueEach("rideOf(#, 5)", 0, 1, 1);
        document.says("false if it was so.")
            .due("ride(1, 1, 0, 0, 3)", 0)
            .due("rain(false)", 0).due("rideOf(0, 5)", 1)
            .due("rain(true)", 1).due("rain(true)", 0).due("rideOf(0, 5)", 0);
    }

    private static void ticks() {
        document.promise("Promise 14: ticks", "int ticks(int n)");
        document.says("n TICKS pass:")
            .due("ride(1, 1, 0, 0, 0)", 0)
            .due("ticks(1)", 0).due("count(0)", 1).due("rideOf(0, 12)", 1)
            .due("ticks(7)", 0).due("count(0)", 8).due("rideOf(0, 12)", 8);
        document.says("how many people were ON rides anew.")
            .due("ride(4, 1, 0, 0, 0)", 0).due("ride(4, 3, 0, 0, 0)", 1)
            .due("group(3)", 0).due("group(2)", 1).due("group(1)", 2).due("group(4)", 3)
            .due("stand(0, 0)", 0).due("stand(1, 1)", 0).due("stand(2, 1)", 1).due("stand(3, 0)", 1)
            .due("ticks(1)", 3)
            .due("ticks(2)", 7)
            .due("ticks(3)", 0)
            .due("stand(0, 0)", 0).due("stand(3, 0)", 1)
            .due("ticks(3)", 7);
        document.says("-4 below 1;")
            .due("ticks(0)", -4).due("ticks(-1)", -4).due("ticks(" + LEAST + ")", -4)
            .due("count(0)", 0).due("count(14)", 3)
            .due("ticks(5000)", 0).due("ticks(0)", -4);
        document.says("-6 TICK would be above 5000.")
            .due("ticks(5001)", -6).due("ticks(" + MOST + ")", -6).due("count(0)", 0)
            .due("ticks(4998)", 0)
            .due("ticks(3)", -6).due("ticks(" + MOST + ")", -6).due("count(0)", 4998)
            .due("ticks(2)", 0).due("count(0)", 5000)
            .due("ticks(1)", -6).due("count(0)", 5000)
            .due("count(16)", 5);
    }

    private static void waits() {
        document.promise("Promise 15: wait", "int wait(int group)");
        document.says("WAIT.")
            .due("ride(4, 1, 1, 0, 0)", 0).due("group(3)", 0).due("group(2)", 1).due("group(1)", 2).due("group(1)", 3)
            .dueInOrder("stand(#, 0)", 0, 3, 0)
            .dueEach("wait(#)", 0, 1, 2, 2, 3)
            .due("leave(0)", 0).due("wait(1)", 1).due("wait(2)", 1).due("wait(3)", 2);
        document.says("-1;")
            .due("wait(0)", -1).due("group(1)", 0)
            .due("wait(1)", -1).due("wait(-1)", -1).due("wait(" + LEAST + ")", -1).due("wait(" + MOST + ")", -1)
            .due("count(11)", 5);
        Scenes.withEachDoing(document.says("-2 it does not stand;"))
            .dueEach("wait(#)", 0, -2, -2, 1, -2, -2)
            .due("count(12)", 4);
        document.says("-3 it would never be ON (PART was made greater).")
            .due("ride(5, 1, 0, 0, 0)", 0).due("group(2)", 0).due("group(4)", 1).due("group(1)", 2)
            .dueInOrder("stand(#, 0)", 0, 2, 0)
            .due("part(0, 1, 0)", 1).dueEach("wait(#)", 0, 1, 2, 3)
            .due("part(0, 2, 0)", 1).dueEach("wait(#)", 0, 1, -3, -3)
            .due("part(0, 5, 0)", 1).dueEach("wait(#)", 0, -3, -3, -3)
            .due("count(13)", 5);
    }

    private static void free() {
        document.promise("Promise 16: free", "int free(int group, int ride)");
        withThreeRides(document.says("The WINDOW that take() would tell;"))
            .due("group(6)", 0).due("group(5)", 1)
            .due("free(0, 0)", 1).due("take(0, 0)", 1)
            .due("free(1, 0)", 2).due("take(1, 0)", 2)
            .due("walk(0, 1, 6)", 0)
            .due("free(0, 1)", 4).due("take(0, 1)", 4)
            .due("ticks(5)", 0)
            .due("free(1, 0)", 3).due("take(1, 0)", 3);
        withThreeRides(document.says("nothing changes."))
            .due("group(6)", 0)
            .due("free(0, 0)", 1).due("free(0, 0)", 1).due("free(0, 0)", 1)
            .due("groupOf(0, 4)", 0).due("window(0, 1, 0)", 0).due("time(0, 0, 0)", -1);
        Scenes.withEachDoing(document.says("-1;"))
            .due("free(5, 0)", -1).due("free(-1, 0)", -1).due("free(4, 1)", -1).due("free(4, -1)", -1).due("free(3, 1)", -1)
            .due("free(" + LEAST + ", 0)", -1).due("free(4, " + MOST + ")", -1)
            .due("count(11)", 7);
        Scenes.withEachDoing(document.says("-2;"))
            .due("free(3, 0)", -2)
            .due("part(0, 0, 0)", 1).due("free(3, 0)", -2)
            .due("count(12)", 2);
        Scenes.withEachDoing(document.says("-6;"))
            .due("take(4, 0)", 2).due("take(4, 0)", 3).due("free(4, 0)", -6)
            .due("part(0, 0, 0)", 1).due("free(4, 0)", -6)
            .due("count(16)", 2);
        Scenes.withEachDoing(document.says("-3."))
            .due("part(0, 1, 1)", 1).due("free(4, 0)", -3)
            .due("count(13)", 1)
            .due("part(0, 1, 0)", 1).due("free(4, 0)", 2);
    }

    private static void groupOf() {
        document.promise("Promise 17: groupOf", "int groupOf(int group, int what)");
        document.says("Of a GROUP: 0 how many,")
            .due("group(8)", 0).due("group(1)", 1).dueEach("groupOf(#, 0)", 0, 8, 1);
        Scenes.withEachDoing(document.says("1 what it does,"))
            .dueEach("groupOf(#, 1)", 0, 2, 3, 1, 4, 0);
        Scenes.withEachDoing(document.says("2 the RIDE of that (-9),"))
            .dueEach("groupOf(#, 2)", 0, 0, 0, 0, -9, -9)
            .due("ride(8, 1, 0, 0, 0)", 1).due("stand(4, 1)", 0).due("groupOf(4, 2)", 1);
        Scenes.withEachDoing(document.says("3 its place in the row (-9),"))
            .dueEach("groupOf(#, 3)", 0, 0, -9, 0, -9, -9)
            .due("stand(4, 0)", 1).due("groupOf(4, 3)", 1)
            .due("leave(2)", 0).due("groupOf(4, 3)", 0);
        withThreeRides(document.says("4 TIMES,"))
            .groups(0, 3, 1)
            .due("take(1, 0)", 1).due("take(2, 0)", 1).due("take(2, 0)", 2)
            .dueEach("groupOf(#, 4)", 0, 0, 1, 2)
            .due("give(2, 0)", 1).due("groupOf(2, 4)", 1);
        Scenes.withAnAny(document.says("5 ANYS,"))
            .groups(1, 1, 1)
            .dueEach("groupOf(#, 5)", 0, 1, 0)
            .due("come(0, 0)", 0).due("groupOf(0, 5)", 0);
        Scenes.withBack(document.says("6 times it was ON,"), "ride(8, 1, 2, 0, 0)", 2)
            .due("groupOf(0, 6)", 0)
            .due("ticks(1)", 2).due("groupOf(0, 6)", 1)
            .due("ticks(1)", 0).due("stand(0, 0)", 0)
            .due("ticks(1)", 2).due("groupOf(0, 6)", 2);
        withThreeRides(document.says("7 TIMES that it MISSED,"))
            .groups(0, 3, 1)
            .due("take(0, 0)", 1).due("take(0, 0)", 2).due("take(1, 0)", 1)
            .due("ticks(5)", 0).due("come(1, 0)", 0)
            .due("ticks(5)", 1).dueEach("groupOf(#, 7)", 0, 1, 0, 0)
            .due("ticks(5)", 0).dueEach("groupOf(#, 7)", 0, 2, 0, 0);
        withThreeRides(document.says("8 TIMES of it that were moved."))
            .groups(0, 2, 1)
            .due("take(0, 0)", 1).due("take(0, 1)", 2)
            .due("stop(0, true)", 1).due("stop(1, true)", 1)
            .due("ticks(10)", 0).dueEach("groupOf(#, 8)", 0, 1, 0)
            .due("ticks(5)", 0).dueEach("groupOf(#, 8)", 0, 3, 0);
        document.says("-1;")
            .due("groupOf(0, 0)", -1).due("group(1)", 0)
            .due("groupOf(1, 0)", -1).due("groupOf(-1, 0)", -1).due("groupOf(1, 9)", -1)
            .due("groupOf(" + LEAST + ", 0)", -1).due("groupOf(" + MOST + ", 0)", -1)
            .due("count(11)", 6);
        document.says("-9 another what.")
            .due("group(1)", 0)
            .due("groupOf(0, 9)", -9).due("groupOf(0, -1)", -9)
            .due("groupOf(0, " + LEAST + ")", -9).due("groupOf(0, " + MOST + ")", -9);
    }

    private static void time() {
        document.promise("Promise 18: time", "int time(int group, int i, int what)");
        withThreeRides(document.says("Of TIME i of a GROUP: 0 RIDE,"))
            .groups(0, 1, 1)
            .due("take(0, 2)", 1).due("take(0, 1)", 2)
            .dueEach("time(0, #, 0)", 0, 2, 1);
        withThreeRides(document.says("1 WINDOW."))
            .groups(0, 1, 1)
            .due("take(0, 2)", 1).due("ticks(5)", 0).due("take(0, 1)", 2)
            .dueEach("time(0, #, 1)", 0, 1, 2);
        withThreeRides(document.says("-1 (TIME, too);"))
            .groups(0, 1, 1)
            .due("time(0, 0, 0)", -1)
            .due("take(0, 2)", 1)
            .due("time(0, 1, 0)", -1).due("time(0, -1, 0)", -1).due("time(0, 1, 2)", -1)
            .due("time(1, 0, 0)", -1).due("time(-1, 0, 0)", -1)
            .due("time(0, " + LEAST + ", 0)", -1).due("time(0, " + MOST + ", 1)", -1)
            .due("count(11)", 8);
        withThreeRides(document.says("-9 another what."))
            .groups(0, 1, 1)
            .due("take(0, 2)", 1)
            .due("time(0, 0, 2)", -9).due("time(0, 0, -1)", -9)
            .due("time(0, 0, " + LEAST + ")", -9).due("time(0, 0, " + MOST + ")", -9);
    }

    private static Calls withTwoUnlike(Calls calls) {
        return calls.due("ride(9, 4, 3, 7, 2)", 0).due("ride(8, 5, 6, 1, 3)", 1);
    }

    private static void rideOfWhatItWasMadeWith() {
        document.promise("Promise 19: rideOf", "int rideOf(int ride, int what)");
        withTwoUnlike(document.says("Of a RIDE: 0 SEATS,")).dueEach("rideOf(#, 0)", 0, 9, 8);
        withTwoUnlike(document.says("1 ROUND,")).dueEach("rideOf(#, 1)", 0, 4, 5);
        withTwoUnlike(document.says("2 PART,")).dueEach("rideOf(#, 2)", 0, 3, 6).due("part(0, 5, 2)", 1).dueEach("rideOf(#, 2)", 0, 5, 6);
        withTwoUnlike(document.says("3 SPARE,")).dueEach("rideOf(#, 3)", 0, 7, 1).due("part(0, 5, 2)", 1).dueEach("rideOf(#, 3)", 0, 2, 1);
        withTwoUnlike(document.says("4 KIND,")).dueEach("rideOf(#, 4)", 0, 2, 3);
        withTwoUnlike(document.says("5 1 if it RUNS"))
            .dueEach("rideOf(#, 5)", 0, 1, 1)
            .due("stop(0, true)", 1).dueEach("rideOf(#, 5)", 0, 0, 1)
            .due("stop(0, false)", 1).dueEach("rideOf(#, 5)", 0, 1, 1);
        withTwoUnlike(document.says("(a WET one: and it does not rain),"))
            .due("rain(true)", 1).dueEach("rideOf(#, 5)", 0, 1, 0)
            .due("stop(1, true)", 1).due("rain(false)", 1).dueEach("rideOf(#, 5)", 0, 1, 0)
            .due("stop(1, false)", 1).dueEach("rideOf(#, 5)", 0, 1, 1);
    }

    private static void rideOfWhatIsThereNow() {
        withThreeRides(document.says("6 groups that stand,"))
            .groups(0, 3, 2)
            .due("stand(0, 1)", 0).due("stand(1, 1)", 1).due("stand(2, 0)", 0)
            .dueEach("rideOf(#, 6)", 0, 1, 2, 0)
            .due("leave(0)", 1).dueEach("rideOf(#, 6)", 0, 1, 1, 0)
            .due("ticks(1)", 4).dueEach("rideOf(#, 6)", 0, 0, 0, 0);
        Scenes.withBack(document.says("7 groups BACK,"), "ride(8, 1, 2, 0, 0)", 4, 4, 2)
            .due("rideOf(0, 7)", 3)
            .due("leave(2)", 0).due("rideOf(0, 7)", 2)
            .due("ticks(1)", 8).due("rideOf(0, 7)", 0);
        document.says("8 people ON,")
            .due("ride(8, 2, 0, 0, 0)", 0).due("ride(8, 4, 0, 0, 0)", 1)
            .due("group(3)", 0).due("group(2)", 1).due("group(4)", 2)
            .due("stand(0, 0)", 0).due("stand(1, 0)", 1).due("stand(2, 1)", 0)
            .due("ticks(2)", 5).dueEach("rideOf(#, 8)", 0, 5, 0)
            .due("ticks(2)", 4).dueEach("rideOf(#, 8)", 0, 0, 4)
            .due("ticks(3)", 0).dueEach("rideOf(#, 8)", 0, 0, 4)
            .due("ticks(1)", 0).dueEach("rideOf(#, 8)", 0, 0, 0);
    }

    private static void rideOfWhatWas() {
        document.says("9 people that were ON in all,")
            .due("ride(4, 1, 0, 0, 0)", 0).due("ride(4, 1, 0, 0, 0)", 1)
            .due("group(3)", 0).due("group(2)", 1)
            .due("stand(0, 0)", 0).due("stand(1, 0)", 1)
            .due("ticks(1)", 3).dueEach("rideOf(#, 9)", 0, 3, 0)
            .due("ticks(2)", 2).dueEach("rideOf(#, 9)", 0, 5, 0)
            .due("stand(0, 0)", 0)
            .due("ticks(1)", 3).dueEach("rideOf(#, 9)", 0, 8, 0);
        document.says("10 seats that were empty in all its ROUNDS,")
            .due("ride(4, 1, 0, 0, 0)", 0).due("ride(5, 2, 0, 0, 0)", 1)
            .due("group(3)", 0)
            .due("stand(0, 0)", 0)
            .due("ticks(1)", 3).dueEach("rideOf(#, 10)", 0, 1, 0)
            .due("ticks(1)", 0).dueEach("rideOf(#, 10)", 0, 5, 5)
            .due("stop(0, true)", 1)
            .due("ticks(2)", 0).dueEach("rideOf(#, 10)", 0, 5, 10);
        document.says("11 its WINDOW of now,")
            .due("ride(4, 1, 0, 0, 0)", 0).due("ride(4, 1, 0, 0, 2)", 1)
            .due("ticks(14)", 0).dueEach("rideOf(#, 11)", 0, 2, 0)
            .due("ticks(1)", 0).dueEach("rideOf(#, 11)", 0, 3, 1)
            .due("ride(4, 2, 0, 0, 0)", 2).due("rideOf(2, 11)", 1);
        document.says("12 ROUNDS that began.")
            .due("ride(4, 1, 0, 0, 0)", 0).due("ride(4, 2, 0, 0, 0)", 1)
            .due("ticks(5)", 0).dueEach("rideOf(#, 12)", 0, 5, 2)
            .due("stop(0, true)", 1)
            .due("ticks(5)", 0).dueEach("rideOf(#, 12)", 0, 5, 5)
            .due("ride(4, 1, 0, 0, 0)", 2).due("rideOf(2, 12)", 0);
        withTwoUnlike(document.says("-1;"))
            .due("rideOf(2, 0)", -1).due("rideOf(-1, 0)", -1).due("rideOf(2, 13)", -1)
            .due("rideOf(" + LEAST + ", 0)", -1).due("rideOf(" + MOST + ", 0)", -1)
            .due("count(11)", 5);
        withTwoUnlike(document.says("-9 another what."))
            .due("rideOf(0, 13)", -9).due("rideOf(0, -1)", -9)
            .due("rideOf(0, " + LEAST + ")", -9).due("rideOf(0, " + MOST + ")", -9);
    }

    private static void window() {
        document.promise("Promise 20: window", "int window(int ride, int window, int what)");
        withThreeRides(document.says("GIVEN of a WINDOW of a RIDE (what 0),"))
            .due("group(6)", 0).due("group(3)", 1).due("group(5)", 2)
            .due("take(0, 0)", 1).due("take(1, 0)", 1).due("take(2, 0)", 2)
            .dueEach("window(0, #, 0)", 0, 0, 9, 5, 0)
            .dueEach("window(1, #, 0)", 0, 0, 0, 0, 0)
            .due("window(0, " + MOST + ", 0)", 0);
        withTwoUnlike(document.says("its ROOM (1)."))
            .dueEach("window(0, #, 1)", 0, 8, 8, 8)
            .dueEach("window(1, #, 1)", 0, 29, 29, 29)
            .due("part(0, 1, 6)", 1).due("window(0, 1, 1)", 0)
            .due("window(1, " + MOST + ", 1)", 29);
        withTwoUnlike(document.says("-1 (a WINDOW below 0, too);"))
            .due("window(2, 0, 0)", -1).due("window(-1, 0, 1)", -1)
            .due("window(0, -1, 0)", -1).due("window(0, -1, 1)", -1).due("window(0, " + LEAST + ", 0)", -1)
            .due("window(0, -1, 2)", -1).due("window(2, 0, 2)", -1)
            .due("count(11)", 7);
        withTwoUnlike(document.says("-9 another what."))
            .due("window(0, 0, 2)", -9).due("window(0, 0, -1)", -9)
            .due("window(0, 0, " + LEAST + ")", -9).due("window(0, 0, " + MOST + ")", -9);
    }

    private static void row() {
        document.promise("Promise 21: row", "int row(int ride, boolean back, int i)");
        Scenes.withBack(document.says("GROUP i of the STANDING row of a RIDE,"), "ride(8, 1, 2, 0, 0)", 1, 1)
            .due("ride(8, 1, 2, 0, 0)", 1)
            .groups(2, 3, 1)
            .due("stand(4, 0)", 0).due("stand(2, 0)", 1).due("stand(3, 1)", 0)
            .dueEach("row(0, false, #)", 0, 4, 2)
            .due("row(1, false, 0)", 3);
        Scenes.withBack(document.says("or of that of those BACK;"), "ride(8, 1, 2, 0, 0)", 1, 1, 1)
            .groups(3, 1, 1)
            .due("stand(3, 0)", 0)
            .dueEach("row(0, true, #)", 0, 0, 1, 2)
            .due("leave(0)", 0)
            .dueEach("row(0, true, #)", 0, 1, 2);
        Scenes.withBack(document.says("-9 if there is none."), "ride(8, 1, 2, 0, 0)", 1)
            .dueEach("row(0, true, #)", -1, -9, 0, -9)
            .dueEach("row(0, false, #)", -1, -9, -9, -9)
            .due("row(0, true, " + LEAST + ")", -9).due("row(0, true, " + MOST + ")", -9).due("row(0, false, 60)", -9)
            .due("count(11)", 0);
        Scenes.withBack(document.says("-1."), "ride(8, 1, 2, 0, 0)", 1)
            .due("row(1, true, 0)", -1).due("row(1, false, 0)", -1).due("row(-1, true, 0)", -1).due("row(1, true, -1)", -1)
            .due("row(" + LEAST + ", true, 0)", -1).due("row(" + MOST + ", false, 0)", -1)
            .due("count(11)", 6);
    }

    private static void count() {
        document.promise("Promise 22: count", "int count(int what)");
        document.says("0 TICK,").due("count(0)", 0).due("ticks(3)", 0).due("count(0)", 3);
        withThreeRides(document.says("1 RIDES,")).due("count(1)", 3);
        document.says("2 GROUPS,").due("count(2)", 0).groups(0, 5, 8).due("count(2)", 5);
        Scenes.withEachDoing(document.says("3 people in all,")).due("count(3)", 15).due("group(8)", 5).due("count(3)", 23);
        Scenes.withEachDoing(document.says("4 ON,")).due("count(4)", 2).due("ticks(2)", 4).due("count(4)", 4).due("ticks(2)", 0).due("count(4)", 0);
        Scenes.withEachDoing(document.says("5 in rows,")).due("count(5)", 4).due("stand(4, 0)", 1).due("count(5)", 9).due("leave(0)", 0).due("count(5)", 8);
        Scenes.withEachDoing(document.says("6 GONE,")).due("count(6)", 4).due("go(4)", 0).due("count(6)", 9);
        document.says("11 .. 16 REFUSALS -1 .. -6.")
            .dueEach("count(#)", 11, 0, 0, 0, 0, 0, 0)
            .due("go(0)", -1).dueEach("count(#)", 11, 1, 0, 0, 0, 0, 0)
            .due("group(1)", 0).due("leave(0)", -2).dueEach("count(#)", 11, 1, 1, 0, 0, 0, 0)
            .due("ride(1, 1, 0, 0, 0)", 0).due("come(0, 0)", -3).dueEach("count(#)", 11, 1, 1, 1, 0, 0, 0)
            .due("group(0)", -4).dueEach("count(#)", 11, 1, 1, 1, 1, 0, 0)
            .due("group(9)", -6).dueEach("count(#)", 11, 1, 1, 1, 1, 0, 1)
            .due("go(7)", -1).dueEach("count(#)", 11, 2, 1, 1, 1, 0, 1);
        document.says("-9 for another what.")
            .due("count(-1)", -9).dueEach("count(#)", 7, -9, -9, -9, -9).due("count(17)", -9)
            .due("count(" + LEAST + ")", -9).due("count(" + MOST + ")", -9);
    }

    private static void notPromised() {
        document.pass("## Not promised");
        document.pass("How the state is held inside the object is free, as are the speed of each call, the text of toString"
            + " and the behaviour of equals and hashCode. Use of one object from several threads at once is not promised to be safe.");
        document.pass("Nothing is promised beyond the answers and state changes described above, and nothing about an object after its 512th call.");
    }
}
