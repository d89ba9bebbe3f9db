import java.io.IOException;

/** The document from its first line up to promise 1: its words in their order, each with a run that would fail if they were broken. */
public final class TermsTest {
    private static Document document;

    public static void main(String[] args) throws IOException {
        document = Document.between("# ParkRows", "## Promise 1:");
        whatItIs();
        ticksAndCalls();
        ridesAndTheirNumbers();
        kindsOfRides();
        roundsOfRides();
        windowsOfRides();
        groupsAndWhatTheyDo();
        timesAndAnys();
        walks();
        taking();
        overlapping();
        comingBack();
        standingAndLeaving();
        aTickPasses();
        seatsAreFilled();
        windowsEnd();
        timesAreMoved();
        timesAreMissed();
        waits();
        refusals();
        refusalsByNumbers();
        document.end();
        Calls.finish();
    }

    private static void whatItIs() {
        document.pass("# ParkRows ## What it is");
        document.says("A park of rides with two rows at each door: who stands, and who comes back at the time that was given;")
            .due("ride(8, 1, 2, 0, 0)", 0).due("ride(8, 1, 2, 0, 0)", 1)
            .groups(0, 4, 1)
            .due("take(0, 0)", 1).due("take(1, 1)", 1)
            .due("ticks(5)", 0)
            .due("come(0, 0)", 0).due("come(1, 1)", 0).due("stand(2, 0)", 0).due("stand(3, 1)", 0)
            .dueEach("row(#, true, 0)", 0, 0, 1)
            .dueEach("row(#, false, 0)", 0, 2, 3);
        document.says("windows that are never fuller than their seats,")
            .due("ride(2, 1, 1, 3, 0)", 0)
            .groups(0, 5, 1)
            .dueEach("take(#, 0)", 0, 1, 1, 2, 2, 3)
            .dueEach("window(0, #, 0)", 1, 2, 2, 1)
            .dueEach("window(0, #, 1)", 1, 2, 2, 2);
        Scenes.withBack(document.says("rounds filled by parts,"), "ride(3, 1, 2, 0, 0)", 2, 1)
            .due("group(1)", 2).due("stand(2, 0)", 0)
            .due("ticks(1)", 3)
            .dueEach("groupOf(#, 1)", 0, 3, 2, 3);
        document.says("stops that move what was given,")
            .due("ride(3, 1, 1, 0, 0)", 0).due("group(1)", 0)
            .due("take(0, 0)", 1)
            .due("stop(0, true)", 1)
            .due("ticks(10)", 0)
            .due("time(0, 0, 1)", 2).due("groupOf(0, 8)", 1);
        document.says("groups that walk between,")
            .due("ride(3, 1, 1, 0, 0)", 0).due("ride(3, 1, 1, 0, 0)", 1).due("group(1)", 0)
            .due("walk(0, 1, 6)", 0)
            .due("take(0, 0)", 1)
            .due("take(0, 1)", 4);
        Scenes.withBack(document.says("waits foretold that are never too short."), "ride(4, 1, 1, 0, 0)", 1, 1)
            .due("group(3)", 2).due("group(1)", 3).due("group(2)", 4)
            .due("stand(2, 0)", 0).due("stand(3, 0)", 1).due("stand(4, 0)", 2)
            .dueEach("wait(#)", 2, 1, 2, 2)
            .due("ticks(1)", 4).dueEach("groupOf(#, 1)", 0, 3, 2, 3, 1, 1)
            .due("ticks(1)", 4).dueEach("groupOf(#, 1)", 0, 0, 3, 0, 3, 3);
    }

    private static void ticksAndCalls() {
        document.says("==== TICKS go on from 0 (5000 at most).")
            .due("count(0)", 0)
            .due("ticks(1)", 0).due("count(0)", 1)
            .due("ticks(4999)", 0).due("count(0)", 5000)
            .due("ticks(1)", -6).due("count(0)", 5000);
        Calls calls = document.says("An object is used for at most 512 calls after it has been made;");
        for (int i = 0; i < 511; i++) {
            calls.due("go(0)", -1);
        }
        calls.due("count(11)", 511);
        document.pass("what later calls answer is free.");
        // LanguageTest holds the face.
        document.passUpTo("## Terms");
    }

    private static void ridesAndTheirNumbers() {
        document.pass("## Terms");
        document.says("RIDES have numbers from 0 on (8 at most):")
            .dueInOrder("ride(#, 1, 0, 0, 0)", 1, 8, 0)
            .due("ride(9, 1, 0, 0, 0)", -6)
            .due("count(1)", 8)
            .dueEach("rideOf(#, 0)", -1, -1, 1, 2, 3, 4, 5, 6, 7, 8, -1);
        document.says("SEATS (1 .. 40),")
            .dueEach("ride(#, 1, 0, 0, 0)", 0, -4, 0)
            .dueEach("ride(#, 1, 0, 0, 0)", 40, 1, -6)
            .dueEach("rideOf(#, 0)", 0, 1, 40)
            .groups(0, 2, 1)
            .due("stand(0, 0)", 0).due("stand(1, 0)", 1)
            .due("ticks(1)", 1);
        document.says("a ROUND (1 .. 20 TICKS),")
            .dueEach("ride(1, #, 0, 0, 0)", 0, -4, 0)
            .dueEach("ride(1, #, 0, 0, 0)", 20, 1, -6)
            .dueEach("rideOf(#, 1)", 0, 1, 20)
            .due("ticks(40)", 0)
            .dueEach("rideOf(#, 12)", 0, 40, 2);
        document.says("a PART of the SEATS (0 .. SEATS) for those with a time,")
            .dueEach("ride(3, 1, #, 0, 0)", -1, -4, 0, 1, 2, 3, -6)
            .dueEach("rideOf(#, 2)", 0, 0, 1, 2, 3)
            .groups(0, 4, 1)
            .dueEach("free(0, #)", 0, -3, 1, 1, 1)
            .dueEach("stand(3, #)", 3, -6);
        document.says("a SPARE (0 .. 99),")
            .dueEach("ride(40, 1, 40, #, 0)", -1, -4, 0)
            .dueEach("ride(40, 1, 40, #, 0)", 99, 1, -6)
            .dueEach("rideOf(#, 3)", 0, 0, 99)
            .dueEach("window(#, 1, 1)", 0, 200, 101);
    }

    private static void kindsOfRides() {
        document.says("a KIND: 0 RIDE;")
            .dueEach("ride(3, 2, 0, 0, #)", -1, -4, 0, 1, 2, 3, -6)
            .dueEach("rideOf(#, 4)", 0, 0, 1, 2, 3)
            .due("group(2)", 0).due("group(2)", 1).due("group(1)", 2)
            .dueInOrder("stand(#, 0)", 0, 2, 0)
            .due("rain(true)", 1)
            .due("ticks(2)", 2)
            .dueEach("groupOf(#, 1)", 0, 3, 1, 1);
        document.says("1 SINGLE: seats that would be empty are filled by groups of one;")
            .due("ride(3, 1, 0, 0, 1)", 0)
            .due("group(2)", 0).due("group(2)", 1).due("group(1)", 2)
            .dueInOrder("stand(#, 0)", 0, 2, 0)
            .due("ticks(1)", 3)
            .dueEach("groupOf(#, 1)", 0, 3, 1, 3)
            .due("rideOf(0, 10)", 0);
        document.says("2 SHOW: its ROUNDS begin only at TICKS that are multiples of 3 ROUNDS (so it is still for two);")
            .due("ride(1, 2, 0, 0, 2)", 0).due("group(1)", 0)
            .due("stand(0, 0)", 0)
            .due("ticks(5)", 0).due("rideOf(0, 12)", 0)
            .due("ticks(1)", 1).due("rideOf(0, 12)", 1)
            .due("ticks(2)", 0).due("groupOf(0, 1)", 0)
            .due("stand(0, 0)", 0)
            .due("ticks(3)", 0).due("rideOf(0, 12)", 1)
            .due("ticks(1)", 1).due("rideOf(0, 12)", 2);
        document.says("3 WET: it does not run while it RAINS.")
            .due("ride(1, 1, 0, 0, 3)", 0).due("group(1)", 0)
            .due("stand(0, 0)", 0)
            .due("rain(true)", 1).due("rideOf(0, 5)", 0)
            .due("ticks(3)", 0)
            .due("rain(false)", 1).due("rideOf(0, 5)", 1)
            .due("ticks(1)", 1);
        document.says("A RIDE RUNS, or is STOPPED.")
            .due("ride(1, 1, 0, 0, 0)", 0).due("group(1)", 0)
            .due("stand(0, 0)", 0)
            .due("rideOf(0, 5)", 1)
            .due("stop(0, true)", 1).due("rideOf(0, 5)", 0)
            .due("ticks(3)", 0)
            .due("stop(0, false)", 1).due("rideOf(0, 5)", 1)
            .due("ticks(1)", 1);
    }

    private static void roundsOfRides() {
        Calls calls = document.says("A ROUND of a RIDE begins at each TICK that is a multiple of its ROUND")
            .due("ride(1, 3, 0, 0, 0)", 0).due("ride(1, 4, 0, 0, 0)", 1);
        for (int tick = 1; tick <= 13; tick++) {
            calls.due("ticks(1)", 0).dueEach("rideOf(#, 12)", 0, tick / 3, tick / 4);
        }
        calls.due("ride(1, 3, 0, 0, 0)", 2)
            .due("ticks(1)", 0).due("rideOf(2, 12)", 0)
            .due("ticks(1)", 0).due("rideOf(2, 12)", 1);
        calls = document.says("(of a SHOW of 3 times that),")
            .due("ride(1, 1, 0, 0, 2)", 0).due("ride(1, 2, 0, 0, 2)", 1);
        for (int tick = 1; tick <= 13; tick++) {
            calls.due("ticks(1)", 0).dueEach("rideOf(#, 12)", 0, tick / 3, tick / 6);
        }
        document.says("if it RUNS")
            .due("ride(1, 2, 0, 0, 0)", 0)
            .due("stop(0, true)", 1)
            .due("ticks(2)", 0).due("rideOf(0, 12)", 0).due("rideOf(0, 10)", 0)
            .due("stop(0, false)", 1)
            .due("ticks(1)", 0).due("rideOf(0, 12)", 0)
            .due("ticks(1)", 0).due("rideOf(0, 12)", 1).due("rideOf(0, 10)", 1);
        document.says("(a WET one: and it does not rain).")
            .dueEach("ride(1, 1, 0, 0, #)", 0, 0, 1, 2, 3)
            .due("rain(true)", 1)
            .due("ticks(3)", 0).dueEach("rideOf(#, 12)", 0, 3, 3, 1, 0)
            .due("rain(false)", 1)
            .due("ticks(1)", 0).dueEach("rideOf(#, 12)", 0, 4, 4, 1, 1);
    }

    private static void windowsOfRides() {
        document.says("WINDOWS of a RIDE, numbered from 0 on, are 5 ROUNDS long")
            .due("ride(1, 1, 0, 0, 0)", 0).due("ride(1, 3, 0, 0, 0)", 1)
            .dueEach("rideOf(#, 11)", 0, 0, 0)
            .due("ticks(4)", 0).dueEach("rideOf(#, 11)", 0, 0, 0)
            .due("ticks(1)", 0).dueEach("rideOf(#, 11)", 0, 1, 0)
            .due("ticks(9)", 0).dueEach("rideOf(#, 11)", 0, 2, 0)
            .due("ticks(1)", 0).dueEach("rideOf(#, 11)", 0, 3, 1)
            .due("ticks(14)", 0).dueEach("rideOf(#, 11)", 0, 5, 1)
            .due("ticks(1)", 0).dueEach("rideOf(#, 11)", 0, 6, 2);
        document.says("(of a SHOW 15):")
            .due("ride(1, 1, 0, 0, 2)", 0).due("ride(1, 2, 0, 0, 2)", 1)
            .due("ticks(14)", 0).dueEach("rideOf(#, 11)", 0, 0, 0)
            .due("ticks(1)", 0).dueEach("rideOf(#, 11)", 0, 1, 0)
            .due("ticks(14)", 0).dueEach("rideOf(#, 11)", 0, 1, 0)
            .due("ticks(1)", 0).dueEach("rideOf(#, 11)", 0, 2, 1);
        document.says("WINDOW w is from TICK w times that, up to the next one's.")
            .due("ride(8, 2, 2, 0, 0)", 0)
            .groups(0, 3, 1)
            .dueEach("take(#, 0)", 0, 1, 1, 1)
            .due("ticks(9)", 0).due("come(0, 0)", -3)
            .due("ticks(1)", 0).due("come(0, 0)", 0)
            .due("ticks(9)", 1).due("come(1, 0)", 0)
            .due("ticks(1)", 1).due("come(2, 0)", -3)
            .due("take(2, 0)", 3)
            .due("ticks(9)", 0).due("come(2, 0)", -3)
            .due("ticks(1)", 0).due("come(2, 0)", 0);
        document.says("ROOM of a WINDOW: 5 times PART,")
            .due("ride(40, 1, 0, 0, 0)", 0).due("window(0, 0, 1)", 0)
            .due("part(0, 1, 0)", 1).due("window(0, 0, 1)", 5)
            .due("part(0, 2, 0)", 1).due("window(0, 7, 1)", 10)
            .due("part(0, 40, 0)", 1).due("window(0, 0, 1)", 200)
            .due("ride(40, 1, 3, 0, 2)", 1).due("window(1, 0, 1)", 15);
        document.says("less SPARE,")
            .due("ride(40, 1, 2, 0, 0)", 0).due("window(0, 0, 1)", 10)
            .due("part(0, 2, 1)", 1).due("window(0, 0, 1)", 9)
            .due("part(0, 2, 9)", 1).due("window(0, 0, 1)", 1)
            .due("ride(40, 1, 3, 4, 2)", 1).due("window(1, 0, 1)", 11);
        document.says("not below 0.")
            .due("ride(40, 1, 2, 10, 0)", 0).due("window(0, 0, 1)", 0)
            .due("part(0, 2, 11)", 1).due("window(0, 0, 1)", 0)
            .due("part(0, 0, 99)", 1).due("window(0, 0, 1)", 0);
    }

    private static void groupsAndWhatTheyDo() {
        document.says("GROUPS have numbers from 0 on (60 at most):")
            .groups(0, 60, 1)
            .due("group(1)", -6)
            .due("count(2)", 60)
            .due("groupOf(-1, 0)", -1).due("groupOf(0, 0)", 1).due("groupOf(59, 0)", 1).due("groupOf(60, 0)", -1);
        document.says("how many they are (1 .. 8),")
            .dueEach("group(#)", 0, -4, 0, 1, 2, 3, 4, 5, 6, 7, -6)
            .dueInOrder("groupOf(#, 0)", 0, 7, 1);
        document.says("what they do: 0 WALKING,")
            .due("ride(8, 2, 0, 0, 0)", 0).groups(0, 1, 1)
            .due("groupOf(0, 1)", 0)
            .due("stand(0, 0)", 0).due("leave(0)", 0).due("groupOf(0, 1)", 0)
            .due("stand(0, 0)", 0).due("ticks(4)", 1).due("groupOf(0, 1)", 0);
        document.says("1 STANDING at a RIDE,")
            .due("ride(8, 2, 0, 0, 0)", 0).due("ride(8, 2, 0, 0, 0)", 1).groups(0, 1, 1)
            .due("stand(0, 1)", 0)
            .dueEach("groupOf(0, #)", 1, 1, 1)
            .dueEach("rideOf(#, 6)", 0, 0, 1);
        Scenes.withBack(document.says("2 BACK at a RIDE (in the row of those with a time),"), "ride(8, 1, 2, 0, 0)", 1)
            .dueEach("groupOf(0, #)", 1, 2, 0)
            .due("row(0, true, 0)", 0).due("row(0, false, 0)", -9);
        document.says("3 ON a RIDE,")
            .due("ride(8, 2, 0, 0, 0)", 0).due("ride(8, 2, 0, 0, 0)", 1).groups(0, 1, 1)
            .due("stand(0, 1)", 0)
            .due("ticks(2)", 1)
            .dueEach("groupOf(0, #)", 1, 3, 1)
            .dueEach("rideOf(#, 8)", 0, 0, 1);
        document.says("4 GONE.")
            .groups(0, 2, 1)
            .due("go(0)", 0)
            .dueEach("groupOf(#, 1)", 0, 4, 0);
    }

    private static void timesAndAnys() {
        document.says("A group has two TIMES at most (a RIDE and a WINDOW),")
            .due("ride(8, 1, 2, 0, 0)", 0).due("ride(8, 2, 2, 0, 0)", 1).groups(0, 1, 1)
            .due("take(0, 1)", 1).due("take(0, 0)", 1)
            .due("take(0, 0)", -6).due("take(0, 1)", -6)
            .due("groupOf(0, 4)", 2)
            .due("time(0, 0, 0)", 1).due("time(0, 0, 1)", 1)
            .due("time(0, 1, 0)", 0).due("time(0, 1, 1)", 1);
        document.says("in the order in which they came,")
            .due("ride(8, 20, 8, 0, 0)", 0).due("ride(8, 1, 8, 0, 0)", 1).groups(0, 2, 1)
            .due("take(0, 0)", 1).due("take(0, 1)", 1)
            .due("take(1, 1)", 1).due("take(1, 0)", 1)
            .dueEach("time(0, #, 0)", 0, 0, 1)
            .dueEach("time(1, #, 0)", 0, 1, 0)
            .due("give(0, 0)", 1).due("take(0, 0)", 1)
            .dueEach("time(0, #, 0)", 0, 1, 0);
        Scenes.withAnAny(document.says("and ANYS (how many: a stay in the row of those with a time at any RIDE)."))
            .due("groupOf(0, 5)", 1)
            .due("part(0, 2, 0)", 1).due("take(0, 0)", 3).due("part(0, 0, 0)", 1)
            .due("ticks(10)", 0)
            .due("groupOf(0, 5)", 2)
            .due("ride(6, 1, 2, 0, 0)", 1)
            .due("come(0, 1)", 0).due("row(1, true, 0)", 0).due("groupOf(0, 5)", 1)
            .due("leave(0)", 1)
            .due("come(0, 0)", 0).due("row(0, true, 0)", 0).due("groupOf(0, 5)", 0)
            .due("leave(0)", 0)
            .due("come(0, 1)", -3);
    }

    private static void walks() {
        document.says("WALKS: so many TICKS between each two RIDES (0 .. 50,")
            .due("ride(8, 1, 2, 0, 0)", 0).due("ride(8, 1, 2, 0, 0)", 1).due("ride(8, 1, 2, 0, 0)", 2)
            .dueEach("walk(0, 1, #)", -1, -4, 0)
            .dueEach("walk(0, 1, #)", 50, 0, -6)
            .due("walk(0, 2, 11)", 0).due("walk(1, 2, 1)", 0)
            .groups(0, 1, 1)
            .due("take(0, 0)", 1)
            .dueEach("free(0, #)", 0, 2, 12, 5)
            .due("walk(0, 1, 0)", 50).due("walk(0, 2, 0)", 11).due("walk(1, 2, 0)", 1)
            .dueEach("free(0, #)", 0, 2, 2, 2);
        document.says("the same both ways,")
            .due("ride(8, 1, 2, 0, 0)", 0).due("ride(8, 1, 2, 0, 0)", 1)
            .groups(0, 2, 1)
            .due("take(0, 0)", 1).due("take(1, 1)", 1)
            .due("walk(0, 1, 7)", 0).due("free(0, 1)", 4).due("free(1, 0)", 4)
            .due("walk(1, 0, 1)", 7).due("free(0, 1)", 3).due("free(1, 0)", 3)
            .due("walk(0, 1, 0)", 1).due("free(0, 1)", 2).due("free(1, 0)", 2);
        document.says("0 at first).")
            .due("ride(8, 1, 2, 0, 0)", 0).due("ride(8, 1, 2, 0, 0)", 1)
            .groups(0, 1, 1)
            .due("take(0, 0)", 1).due("free(0, 1)", 2)
            .due("walk(0, 1, 3)", 0);
    }

    private static void taking() {
        document.says("==== TAKING a TIME at a RIDE by a GROUP: the first WINDOW behind the one in which TICK is")
            .due("ride(8, 2, 8, 0, 0)", 0).groups(0, 1, 3)
            .due("free(0, 0)", 1)
            .due("ticks(9)", 0).due("free(0, 0)", 1)
            .due("ticks(1)", 0).due("free(0, 0)", 2)
            .due("take(0, 0)", 2)
            .due("groupOf(0, 4)", 1).dueEach("time(0, 0, #)", 0, 0, 2)
            .dueEach("window(0, #, 0)", 0, 0, 0, 3, 0);
        Scenes.withFortyFullWindows(document.says("(of the 40 behind it)"))
            .due("take(20, 0)", -3)
            .due("ticks(4)", 0).due("take(20, 0)", -3)
            .due("ticks(1)", 0).due("take(20, 0)", 41);
        document.says("in which GIVEN (how many people have it) and the GROUP together are not above its ROOM,")
            .due("ride(8, 1, 2, 2, 0)", 0)
            .due("group(5)", 0).due("group(4)", 1).due("group(3)", 2).due("group(8)", 3)
            .due("take(0, 0)", 1).due("window(0, 1, 0)", 5)
            .due("free(1, 0)", 2)
            .due("take(2, 0)", 1).due("window(0, 1, 0)", 8)
            .due("take(3, 0)", 2).due("window(0, 2, 0)", 8)
            .due("free(1, 0)", 3);
        document.says("and that does not OVERLAP with a TIME of the GROUP:")
            .due("ride(8, 1, 2, 0, 0)", 0).due("ride(8, 1, 2, 0, 0)", 1).groups(0, 2, 1)
            .due("take(0, 0)", 1)
            .due("take(0, 1)", 2)
            .due("take(1, 1)", 1);
    }

    private static void overlapping() {
        document.says("two TIMES OVERLAP if the end of the one (its last TICK) and the WALK between their RIDES"
                + " are not below the first TICK of the other one,")
            .due("ride(8, 1, 2, 0, 0)", 0).due("ride(8, 1, 2, 0, 0)", 1).groups(0, 1, 1)
            .due("take(0, 0)", 1).due("free(0, 1)", 2)
            .due("walk(0, 1, 1)", 0).due("free(0, 1)", 3)
            .due("walk(0, 1, 5)", 1).due("free(0, 1)", 3)
            .due("walk(0, 1, 6)", 5).due("free(0, 1)", 4);
        document.says("and the other way round, too.")
            .due("ride(8, 1, 2, 0, 0)", 0).due("ride(8, 3, 2, 0, 0)", 1).groups(0, 1, 1)
            .due("take(0, 1)", 1).due("free(0, 0)", 1)
            .due("walk(0, 1, 5)", 0).due("free(0, 0)", 1)
            .due("walk(0, 1, 6)", 5).due("free(0, 0)", 8)
            .due("walk(0, 1, 0)", 6)
            .due("ticks(10)", 0).due("free(0, 0)", 6);
        document.says("GIVING it back: GIVEN is less.")
            .due("ride(8, 1, 1, 0, 0)", 0).due("group(4)", 0).due("group(1)", 1)
            .due("take(0, 0)", 1).due("take(1, 0)", 1).due("window(0, 1, 0)", 5)
            .due("give(0, 0)", 1).due("window(0, 1, 0)", 1)
            .dueEach("groupOf(#, 4)", 0, 0, 1)
            .due("give(1, 0)", 1).due("window(0, 1, 0)", 0);
    }

    private static void comingBack() {
        document.says("COMING BACK at a RIDE by a WALKING GROUP: if it has a TIME there in whose WINDOW TICK is: that TIME is used")
            .due("ride(8, 1, 2, 0, 0)", 0).due("ride(8, 1, 2, 0, 0)", 1).groups(0, 2, 2)
            .due("take(0, 0)", 1).due("take(0, 1)", 2).due("take(1, 0)", 1)
            .due("ticks(4)", 0).due("come(0, 0)", -3)
            .due("ticks(1)", 0).due("come(0, 1)", -3)
            .due("come(0, 0)", 0).due("groupOf(0, 4)", 1).due("time(0, 0, 0)", 1)
            .due("stand(1, 1)", 0).due("come(1, 0)", -2)
            .due("leave(1)", 1).due("come(1, 0)", 1).due("groupOf(1, 4)", 0);
        document.saysSo()
            .due("ride(8, 20, 2, 0, 0)", 0).due("ride(8, 1, 2, 0, 0)", 1).groups(0, 1, 2)
            .due("take(0, 0)", 1).due("take(0, 1)", 1)
            .due("ticks(5)", 0)
            .due("come(0, 1)", 0).due("groupOf(0, 4)", 1).due("time(0, 0, 0)", 0);
        Scenes.withBack(document.says("(GIVEN stays);"), "ride(8, 1, 2, 0, 0)", 3)
            .due("window(0, 1, 0)", 3)
            .due("ticks(1)", 3).due("window(0, 1, 0)", 3)
            .due("ticks(4)", 0).due("window(0, 1, 0)", 3);
        Scenes.withAnAny(document.says("else, if it has an ANY: that is used;"))
            .due("part(0, 2, 0)", 1).due("take(0, 0)", 3)
            .due("come(0, 0)", 0).dueEach("groupOf(0, #)", 4, 1, 0)
            .due("leave(0)", 0)
            .due("come(0, 0)", -3);
        Scenes.withAnAny(document.saysSo())
            .due("part(0, 2, 0)", 1).due("take(0, 0)", 3)
            .due("ticks(5)", 0)
            .due("come(0, 0)", 0).dueEach("groupOf(0, #)", 4, 0, 1)
            .due("leave(0)", 0)
            .due("come(0, 0)", 0).dueEach("groupOf(0, #)", 4, 0, 0);
        document.says("it is BACK, the last one in that row.")
            .due("ride(8, 1, 2, 0, 0)", 0).groups(0, 3, 1)
            .dueEach("take(#, 0)", 0, 1, 1, 1)
            .due("ticks(5)", 0)
            .due("come(2, 0)", 0).due("come(0, 0)", 1).due("come(1, 0)", 2)
            .dueEach("groupOf(#, 1)", 0, 2, 2, 2)
            .dueEach("row(0, true, #)", 0, 2, 0, 1, -9);
    }

    private static void standingAndLeaving() {
        document.says("STANDING: the last one in the other row.")
            .due("ride(8, 1, 2, 0, 0)", 0).groups(0, 3, 1)
            .due("stand(2, 0)", 0).due("stand(0, 0)", 1).due("stand(1, 0)", 2)
            .dueEach("groupOf(#, 1)", 0, 1, 1, 1)
            .dueEach("row(0, false, #)", 0, 2, 0, 1, -9)
            .due("row(0, true, 0)", -9);
        Scenes.withBack(document.says("LEAVING a row: it is WALKING"), "ride(8, 1, 2, 0, 0)", 1, 1)
            .groups(2, 2, 1)
            .due("stand(2, 0)", 0).due("stand(3, 0)", 1)
            .due("leave(0)", 0).due("leave(2)", 0)
            .dueEach("groupOf(#, 1)", 0, 0, 2, 0, 1)
            .dueEach("row(0, true, #)", 0, 1, -9)
            .dueEach("row(0, false, #)", 0, 3, -9)
            .due("stand(0, 0)", 1).due("go(2)", 0);
        Scenes.withBack(document.says("(what was used stays so)."), "ride(8, 1, 2, 0, 0)", 2)
            .due("leave(0)", 0)
            .due("groupOf(0, 4)", 0).due("window(0, 1, 0)", 2)
            .due("come(0, 0)", -3);
        Scenes.withAnAny(document.saysSo())
            .due("come(0, 0)", 0)
            .due("leave(0)", 0)
            .due("groupOf(0, 5)", 0)
            .due("come(0, 0)", -3);
    }

    private static void aTickPasses() {
        document.says("==== A TICK passes: TICK is 1 more.")
            .due("ticks(1)", 0).due("count(0)", 1)
            .due("ticks(1)", 0).due("count(0)", 2)
            .due("ticks(3)", 0).due("count(0)", 5);
        document.says("Then RIDES, by numbers: who is ON since a TICK that is a ROUND ahead (or longer) is WALKING.")
            .due("ride(2, 3, 0, 0, 0)", 0).due("ride(2, 2, 0, 0, 2)", 1).groups(0, 2, 1)
            .due("stand(0, 0)", 0).due("stand(1, 1)", 0)
            .due("ticks(3)", 1).dueEach("groupOf(#, 1)", 0, 3, 1)
            .due("ticks(2)", 0).dueEach("groupOf(#, 1)", 0, 3, 1)
            .due("ticks(1)", 1).dueEach("groupOf(#, 1)", 0, 0, 3)
            .due("ticks(1)", 0).dueEach("groupOf(#, 1)", 0, 0, 3)
            .due("ticks(1)", 0).dueEach("groupOf(#, 1)", 0, 0, 0)
            .dueEach("rideOf(#, 8)", 0, 0, 0);
    }

    private static void seatsAreFilled() {
        Scenes.withBack(document.says("Then, if a ROUND begins: seats are filled: (1) from the row of those BACK, in order, whole groups,"
                + " as long as the next one fits into what is left of PART;"), "ride(8, 1, 4, 0, 0)", 2, 3, 1)
            .due("group(4)", 3).due("group(3)", 4)
            .due("stand(3, 0)", 0).due("stand(4, 0)", 1)
            .due("ticks(1)", 6)
            .dueEach("groupOf(#, 1)", 0, 3, 2, 2, 3, 1);
        Scenes.withBack(document.saysSo(), "ride(4, 1, 3, 0, 0)", 2, 1)
            .groups(2, 2, 1)
            .due("stand(2, 0)", 0).due("stand(3, 0)", 1)
            .due("ticks(1)", 4)
            .dueEach("groupOf(#, 1)", 0, 3, 3, 3, 1);
        Scenes.withBack(document.says("(2) from the STANDING row, in order, as long as the next one fits into what is left of SEATS;"),
                "ride(8, 1, 4, 0, 0)", 1)
            .due("group(4)", 1).due("group(3)", 2).due("group(1)", 3)
            .dueInOrder("stand(#, 0)", 1, 3, 0)
            .due("ticks(1)", 8)
            .dueEach("groupOf(#, 1)", 0, 3, 3, 3, 1);
        document.saysSo()
            .due("ride(4, 1, 0, 0, 0)", 0).due("group(3)", 0).due("group(2)", 1).due("group(1)", 2)
            .dueInOrder("stand(#, 0)", 0, 2, 0)
            .due("ticks(1)", 3)
            .dueEach("groupOf(#, 1)", 0, 3, 1, 1);
        Scenes.withBack(document.says("(3) from those BACK, as long as the next one fits into what is left of SEATS;"),
                "ride(8, 1, 2, 0, 0)", 3, 1, 5, 1)
            .due("group(2)", 4).due("stand(4, 0)", 0)
            .due("ticks(1)", 6)
            .dueEach("groupOf(#, 1)", 0, 3, 3, 2, 2, 3);
        Scenes.withBack(document.saysSo(), "ride(8, 1, 2, 0, 0)", 3)
            .due("group(6)", 1).due("stand(1, 0)", 0)
            .due("ticks(1)", 6)
            .dueEach("groupOf(#, 1)", 0, 2, 3);
        document.says("(4) of a SINGLE: groups of one in the STANDING row, in order, wherever they stand, as long as a seat is left.")
            .due("ride(5, 1, 0, 0, 1)", 0)
            .due("group(3)", 0).due("group(3)", 1).due("group(2)", 2).groups(3, 3, 1)
            .dueInOrder("stand(#, 0)", 0, 5, 0)
            .due("ticks(1)", 5)
            .dueEach("groupOf(#, 1)", 0, 3, 1, 1, 3, 3, 1)
            .dueEach("row(0, false, #)", 0, 1, 2, 5, -9);
        Scenes.withBack(document.says("They are ON."), "ride(6, 1, 1, 0, 1)", 1, 2)
            .due("group(2)", 2).due("group(4)", 3).due("group(1)", 4)
            .dueInOrder("stand(#, 0)", 2, 4, 0)
            .due("ticks(1)", 6)
            .dueEach("groupOf(#, 1)", 0, 3, 3, 3, 1, 3)
            .dueEach("groupOf(#, 6)", 0, 1, 1, 1, 0, 1)
            .due("rideOf(0, 8)", 6).due("count(4)", 6);
    }

    private static void windowsEnd() {
        document.says("Then for each RIDE, by numbers, if a WINDOW of it ended at the TICK ahead of this one:")
            .due("ride(8, 1, 2, 0, 0)", 0).due("ride(8, 2, 2, 0, 0)", 1).groups(0, 2, 1)
            .due("take(0, 0)", 1).due("take(1, 1)", 1)
            .due("ticks(9)", 0).dueEach("groupOf(#, 4)", 0, 1, 1)
            .due("ticks(1)", 0).dueEach("groupOf(#, 4)", 0, 0, 1)
            .due("ticks(9)", 0).dueEach("groupOf(#, 4)", 0, 0, 1)
            .due("ticks(1)", 0).dueEach("groupOf(#, 4)", 0, 0, 0);
        document.says("each GROUP, by numbers,")
            .due("ride(6, 1, 2, 0, 0)", 0).due("group(4)", 0).due("group(4)", 1).due("group(2)", 2)
            .due("take(2, 0)", 1).due("take(1, 0)", 1).due("take(0, 0)", 1)
            .due("part(0, 1, 0)", 1).due("stop(0, true)", 1)
            .due("ticks(10)", 0)
            .dueEach("time(#, 0, 1)", 0, 2, 3, 4);
        document.says("with a TIME in it")
            .due("ride(8, 1, 2, 0, 0)", 0).due("ride(8, 1, 2, 0, 0)", 1).groups(0, 3, 1)
            .due("take(0, 0)", 1).due("take(0, 0)", 2).due("take(1, 1)", 1).due("take(1, 1)", 2)
            .due("stop(0, true)", 1)
            .due("ticks(10)", 0)
            .dueEach("groupOf(#, 4)", 0, 2, 1, 0)
            .dueEach("groupOf(#, 7)", 0, 0, 1, 0)
            .dueEach("groupOf(#, 8)", 0, 1, 0, 0)
            .dueEach("time(0, #, 1)", 0, 2, 2).due("time(1, 0, 1)", 2);
        withTwoTimesInOneWindow(document.says("(its TIMES in their order):"))
            .due("part(0, 1, 0)", 1)
            .due("ticks(5)", 0).dueEach("time(0, #, 1)", 0, 3, 4);
        withTwoTimesInOneWindow(document.saysSo())
            .due("part(0, 0, 0)", 1)
            .due("ticks(5)", 0).dueEach("groupOf(0, #)", 4, 0, 2, 0, 0, 1);
        withTwoTimesInOneWindow(document.saysSo())
            .due("stop(0, false)", 1)
            .due("ticks(5)", 0).dueEach("groupOf(0, #)", 4, 0, 0, 0, 2, 1);
        document.says("if the RIDE does not RUN now")
            .due("ride(8, 1, 2, 0, 0)", 0).due("ride(8, 1, 2, 0, 0)", 1).groups(0, 2, 1)
            .due("take(0, 0)", 1).due("take(1, 1)", 1)
            .due("stop(1, true)", 1)
            .due("ticks(9)", 0)
            .due("stop(1, false)", 1).due("stop(0, true)", 1)
            .due("ticks(1)", 0)
            .dueEach("groupOf(#, 8)", 0, 1, 0)
            .dueEach("groupOf(#, 7)", 0, 0, 1);
        document.says("(a WET one: or it rains):")
            .due("ride(8, 1, 2, 0, 3)", 0).due("ride(8, 1, 2, 0, 0)", 1).groups(0, 2, 1)
            .due("take(0, 0)", 1).due("take(1, 1)", 1)
            .due("rain(true)", 1)
            .due("ticks(10)", 0)
            .dueEach("groupOf(#, 8)", 0, 1, 0)
            .dueEach("groupOf(#, 7)", 0, 0, 1);
    }

    /** TICK 10; ride 0 is stopped; both times of group 0, of five, are in window 2, as the first was moved. */
    private static Calls withTwoTimesInOneWindow(Calls calls) {
        return calls.due("ride(6, 1, 2, 0, 0)", 0).due("group(5)", 0)
            .due("take(0, 0)", 1).due("take(0, 0)", 2)
            .due("stop(0, true)", 1)
            .due("ticks(10)", 0).dueEach("time(0, #, 1)", 0, 2, 2);
    }

    private static void timesAreMoved() {
        document.says("the TIME is moved to the first WINDOW with room for it")
            .due("ride(8, 1, 1, 0, 0)", 0).groups(0, 3, 3).due("group(2)", 3)
            .dueEach("take(#, 0)", 0, 1, 2, 3, 1)
            .due("stop(0, true)", 1)
            .due("ticks(10)", 0)
            .dueEach("time(#, 0, 1)", 0, 4, 2, 3, 2)
            .dueEach("window(0, #, 0)", 2, 5, 3, 3, 0);
        Scenes.withFortyFullWindows(document.says("(of the 40 behind,"))
            .due("stop(0, true)", 1)
            .due("ticks(10)", 0)
            .due("time(0, 0, 1)", 41).due("groupOf(0, 5)", 0);
        Scenes.withFortyFullWindows(document.saysSo())
            .due("stop(0, true)", 1)
            .due("ticks(5)", 0)
            .due("take(20, 0)", 41)
            .due("ticks(5)", 0)
            .due("time(0, 0, 1)", 2).due("groupOf(0, 5)", 1);
        document.says("from the one on that begins now;")
            .due("ride(8, 1, 2, 0, 0)", 0).due("group(2)", 0)
            .due("take(0, 0)", 1)
            .due("stop(0, true)", 1)
            .due("ticks(10)", 0)
            .due("rideOf(0, 11)", 2).due("time(0, 0, 1)", 2)
            .due("come(0, 0)", 0);
        document.says("OVERLAPS with its other TIME are not looked at),")
            .due("ride(8, 1, 2, 0, 0)", 0).due("ride(8, 1, 2, 0, 0)", 1).due("group(2)", 0)
            .due("take(0, 0)", 1).due("take(0, 1)", 2)
            .due("walk(0, 1, 50)", 0)
            .due("stop(0, true)", 1)
            .due("ticks(10)", 0)
            .dueEach("time(0, #, 1)", 0, 2, 2);
        Scenes.withAnAny(document.says("or, without one, it goes and the GROUP has an ANY more"))
            .dueEach("groupOf(0, #)", 4, 0, 1, 0, 0, 0)
            .due("part(0, 2, 0)", 1).due("take(0, 0)", 3).due("part(0, 0, 0)", 1)
            .due("ticks(9)", 0).dueEach("groupOf(0, #)", 4, 1, 1, 0, 0, 0)
            .due("ticks(1)", 0).dueEach("groupOf(0, #)", 4, 0, 2, 0, 0, 0);
        Scenes.withAnAny(document.says("(in both cases GIVEN of the old one is less);"))
            .due("window(0, 1, 0)", 0);
        document.saysSo()
            .due("ride(8, 1, 2, 0, 0)", 0).due("group(2)", 0).due("group(3)", 1)
            .due("take(0, 0)", 1).due("take(1, 0)", 1)
            .due("stop(0, true)", 1)
            .due("ticks(5)", 0).due("come(1, 0)", 0)
            .due("ticks(4)", 0).dueEach("window(0, #, 0)", 1, 5, 0)
            .due("ticks(1)", 0).dueEach("window(0, #, 0)", 1, 3, 2);
    }

    private static void timesAreMissed() {
        document.says("else it is MISSED, and goes")
            .due("ride(8, 1, 2, 0, 0)", 0).due("group(2)", 0)
            .due("take(0, 0)", 1)
            .due("ticks(9)", 0).dueEach("groupOf(0, #)", 4, 1, 0, 0, 0, 0)
            .due("ticks(1)", 0).dueEach("groupOf(0, #)", 4, 0, 0, 0, 1, 0)
            .due("time(0, 0, 0)", -1);
        document.says("(GIVEN stays).")
            .due("ride(8, 1, 2, 0, 0)", 0).due("group(2)", 0)
            .due("take(0, 0)", 1)
            .due("ticks(10)", 0)
            .dueEach("window(0, #, 0)", 0, 0, 2, 0);
        document.says("A moved one keeps its place among the GROUP's TIMES.")
            .due("ride(8, 1, 2, 0, 0)", 0).due("ride(8, 20, 2, 0, 0)", 1).groups(0, 2, 1)
            .due("take(0, 0)", 1).due("take(0, 1)", 1)
            .due("take(1, 1)", 1).due("take(1, 0)", 1)
            .due("stop(0, true)", 1)
            .due("ticks(10)", 0)
            .dueEach("time(0, #, 0)", 0, 0, 1).dueEach("time(0, #, 1)", 0, 2, 1)
            .dueEach("time(1, #, 0)", 0, 1, 0).dueEach("time(1, #, 1)", 0, 1, 2);
    }

    private static void waits() {
        document.says("==== WAIT of a GROUP that stands: how many ROUNDS that begin, the one included in which it is ON,")
            .due("ride(2, 3, 0, 0, 0)", 0).groups(0, 3, 2)
            .dueInOrder("stand(#, 0)", 0, 2, 0)
            .dueEach("wait(#)", 0, 1, 2, 3)
            .due("ticks(2)", 0).dueEach("wait(#)", 0, 1, 2, 3)
            .due("ticks(1)", 2).dueEach("wait(#)", 1, 1, 2)
            .due("ticks(3)", 2).due("wait(2)", 1);
        document.says("if nobody comes any more, the RIDE RUNS, and at each ROUND the whole PART is taken by those BACK")
            .due("ride(3, 1, 1, 0, 3)", 0).due("group(2)", 0).due("group(1)", 1)
            .due("stand(0, 0)", 0).due("stand(1, 0)", 1)
            .dueEach("wait(#)", 0, 1, 2)
            .due("stop(0, true)", 1).dueEach("wait(#)", 0, 1, 2)
            .due("rain(true)", 1).dueEach("wait(#)", 0, 1, 2)
            .due("rain(false)", 1).due("stop(0, false)", 1)
            .due("ticks(1)", 3);
        document.says("(not by (4), too):")
            .due("ride(3, 1, 0, 0, 1)", 0).due("group(2)", 0).due("group(2)", 1).due("group(1)", 2)
            .dueInOrder("stand(#, 0)", 0, 2, 0)
            .dueEach("wait(#)", 0, 1, 2, 2)
            .due("ticks(1)", 3).due("groupOf(2, 1)", 3);
        document.says("it is told by going through: the SEATS that are left, SEATS less PART, are filled from the STANDING row as in (2).")
            .due("ride(8, 1, 3, 0, 0)", 0)
            .due("group(4)", 0).due("group(1)", 1).due("group(3)", 2).due("group(3)", 3).groups(4, 2, 2)
            .dueInOrder("stand(#, 0)", 0, 5, 0)
            .dueEach("wait(#)", 0, 1, 1, 2, 3, 3, 4);
    }

    private static void refusals() {
        document.says("REFUSALS (the call answers the number,")
            .due("go(0)", -1)
            .groups(0, 1, 1).due("leave(0)", -2)
            .due("ride(1, 1, 0, 0, 0)", 0).due("take(0, 0)", -3)
            .due("ticks(0)", -4)
            .due("ticks(5001)", -6);
        document.says("the first that fits in the order in which it tells them;")
            .due("ride(2, 1, 1, 0, 0)", 0).due("ride(2, 1, 0, 0, 0)", 1).groups(0, 2, 1)
            .due("take(0, 0)", 1).due("take(0, 0)", 2)
            .due("go(1)", 0)
            .due("take(1, 2)", -1).due("take(1, 1)", -2)
            .due("take(0, 2)", -1).due("take(0, 1)", -6)
            .due("come(1, 2)", -1).due("come(1, 0)", -2)
            .due("part(2, -1, 100)", -1).due("part(0, -1, 100)", -4)
            .due("walk(1, 1, -1)", -1).due("ride(0, 21, 0, 0, 0)", -4)
            .dueEach("count(#)", 11, 5, 2, 0, 2, 0, 1);
        document.says("nothing changes but how many there were):")
            .due("ride(2, 1, 1, 0, 0)", 0).due("group(2)", 0)
            .due("stand(0, 0)", -6).due("ticks(5001)", -6).due("part(0, 3, 4)", -6).due("group(9)", -6)
            .dueEach("groupOf(0, #)", 0, 2, 0, -9, -9, 0, 0, 0, 0, 0)
            .dueEach("rideOf(0, #)", 0, 2, 1, 1, 0, 0, 1, 0, 0, 0, 0, 0, 0, 0)
            .dueEach("count(#)", 0, 0, 1, 1, 2, 0, 0, 0)
            .dueEach("count(#)", 11, 0, 0, 0, 0, 0, 4);
    }

    private static void refusalsByNumbers() {
        document.says("-1 NOBODY: no such RIDE, GROUP, TIME.")
            .due("ride(2, 1, 1, 0, 0)", 0).groups(0, 1, 1)
            .due("stand(0, 1)", -1).due("stand(1, 0)", -1).due("give(0, 0)", -1)
            .dueEach("count(#)", 11, 3, 0, 0, 0, 0, 0);
        document.says("-2 STATE: a GROUP that does not do what it must;")
            .due("ride(2, 1, 1, 0, 0)", 0).groups(0, 1, 1)
            .due("leave(0)", -2).due("wait(0)", -2)
            .due("stand(0, 0)", 0)
            .due("stand(0, 0)", -2).due("go(0)", -2).due("come(0, 0)", -2)
            .dueEach("count(#)", 11, 0, 5, 0, 0, 0, 0);
        // No promise refuses a call for what a RIDE does.
        document.pass("a RIDE likewise.");
        document.says("-3 NONE: there is no WINDOW, no TIME, no ANY.")
            .due("ride(2, 1, 0, 0, 0)", 0).groups(0, 1, 1)
            .due("take(0, 0)", -3).due("free(0, 0)", -3).due("come(0, 0)", -3)
            .dueEach("count(#)", 11, 0, 0, 3, 0, 0, 0);
        document.says("-4 BELOW: a number below the least.")
            .due("ride(2, 1, 0, 0, 0)", 0).due("ride(2, 1, 0, 0, 0)", 1)
            .due("ride(0, 1, 0, 0, 0)", -4).due("group(0)", -4).due("walk(0, 1, -1)", -4).due("part(0, -1, 0)", -4).due("ticks(0)", -4)
            .dueEach("count(#)", 11, 0, 0, 0, 5, 0, 0);
        document.says("-6 ROOM: a number above the greatest, or no room.")
            .due("ride(2, 1, 2, 0, 0)", 0).due("ride(2, 1, 0, 0, 0)", 1).groups(0, 1, 1)
            .due("ride(41, 1, 0, 0, 0)", -6).due("group(9)", -6).due("walk(0, 1, 51)", -6).due("part(0, 3, 0)", -6).due("ticks(5001)", -6)
            .due("stand(0, 0)", -6)
            .due("take(0, 0)", 1).due("take(0, 0)", 2).due("take(0, 0)", -6)
            .dueEach("count(#)", 11, 0, 0, 0, 0, 0, 7);
    }
}
