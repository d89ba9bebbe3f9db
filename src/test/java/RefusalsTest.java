import java.util.ArrayList;
import java.util.List;

/**
 * The REFUSALS of all promises: the first that fits, also where two of them do, and that nothing changes but how many there were.
 * Each call is made on one of two parks that were used alike; all that both tell is held against each other, at once and some TICKS later.
 */
public final class RefusalsTest {
    private static final int LEAST = Integer.MIN_VALUE;
    private static final int MOST = Integer.MAX_VALUE;
    private static final int FIRST_COUNT = 11;
    private static final int RIDES = 4;
    private static final int GROUPS = 7;

    public static void main(String[] args) {
        theParkIsAsItsCommentSays();
        ride();
        rideInAFullPark();
        group();
        groupInAFullPark();
        walk();
        part();
        takeAndFree();
        give();
        come();
        stand();
        leave();
        go();
        ticks();
        waits();
        telling();
        whatIsNotRefusedAndChangesNothing();
        Calls.finish();
    }

    /**
     * TICK 17. Rides: 0, with a part; 1, a single without one; 2, wet, whose part is all its seats; 3, a show.
     * Groups: 0 (2 people) walks with two times; 1 (3) stands at ride 0; 2 (1) is back there; 3 (4) is on ride 1;
     * 4 (8) is gone; 5 (1) walks with one time; 6 (5) stands at ride 1, with an any: its time there found no room.
     */
    private static Calls aPark(String title) {
        return Calls.onNew(title)
            .due("ride(6, 3, 2, 0, 0)", 0).due("ride(6, 1, 0, 0, 1)", 1).due("ride(5, 1, 5, 20, 3)", 2).due("ride(4, 1, 1, 4, 2)", 3)
            .due("group(2)", 0).due("group(3)", 1).due("group(1)", 2).due("group(4)", 3)
            .due("group(8)", 4).due("group(1)", 5).due("group(5)", 6)
            .due("walk(0, 1, 7)", 0).due("walk(2, 3, 2)", 0)
            .due("take(2, 0)", 1)
            .due("ticks(9)", 0)
            .due("part(1, 1, 0)", 1).due("take(6, 1)", 2).due("part(1, 0, 0)", 1)
            .due("stop(1, true)", 1)
            .due("ticks(7)", 0)
            .due("come(2, 0)", 0)
            .due("stop(1, false)", 1)
            .due("stand(3, 1)", 0)
            .due("ticks(1)", 4)
            .due("stand(1, 0)", 0).due("stand(6, 1)", 0)
            .due("go(4)", 0)
            .due("take(0, 0)", 2).due("take(0, 0)", 3).due("take(5, 3)", 2);
    }

    private static void theParkIsAsItsCommentSays() {
        aPark("the park in which calls are refused")
            .dueEach("count(#)", 0, 17, 4, 7, 24, 4, 9, 8)
            .dueEach("groupOf(#, 1)", 0, 0, 1, 2, 3, 4, 0, 1)
            .dueEach("groupOf(#, 2)", 0, -9, 0, 0, 1, -9, -9, 1)
            .dueEach("groupOf(#, 4)", 0, 2, 0, 0, 0, 0, 1, 0)
            .dueEach("groupOf(#, 5)", 0, 0, 0, 0, 0, 0, 0, 1)
            .dueEach("count(#)", FIRST_COUNT, 0, 0, 0, 0, 0, 0);
    }

    private static void ride() {
        refuse(-4, "ride(0, 1, 0, 0, 0)", "ride(1, 0, 0, 0, 0)", "ride(1, 1, -1, 0, 0)", "ride(1, 1, 0, -1, 0)", "ride(1, 1, 0, 0, -1)");
        refuse(-6, "ride(41, 1, 0, 0, 0)", "ride(1, 21, 0, 0, 0)", "ride(1, 1, 2, 0, 0)", "ride(1, 1, 0, 100, 0)", "ride(1, 1, 0, 0, 4)");
        // BELOW in one number and ROOM in another, both ways round.
        String[] below = {"0", "0", "-1", "-1", "-1"};
        String[] above = {"41", "21", "41", "100", "4"};
        for (int i = 0; i < below.length; i++) {
            for (int k = 0; k < above.length; k++) {
                String[] numbers = {"1", "1", "0", "0", "0"};
                numbers[k] = above[k];
                numbers[i] = below[i];
                refuse(-4, "ride(" + String.join(", ", numbers) + ")");
            }
        }
        refuse(-4, "ride(" + LEAST + ", " + MOST + ", " + MOST + ", " + MOST + ", " + MOST + ")");
    }

    private static void rideInAFullPark() {
        Calls calls = Calls.onNew("REFUSALS of ride where there are 8: BELOW is told ahead of ROOM");
        for (int i = 0; i < 8; i++) {
            calls.due("ride(2, 1, 0, 0, 0)", i);
        }
        calls.due("ride(2, 1, 0, 0, 0)", -6)
            .due("ride(0, 1, 0, 0, 0)", -4).due("ride(2, 0, 0, 0, 0)", -4).due("ride(2, 1, -1, 0, 0)", -4)
            .due("ride(2, 1, 0, -1, 0)", -4).due("ride(2, 1, 0, 0, -1)", -4)
            .due("ride(41, 1, 0, 0, 0)", -6)
            .dueEach("count(#)", FIRST_COUNT, 0, 0, 0, 5, 0, 2)
            .due("count(1)", 8).due("rideOf(7, 0)", 2).due("rideOf(8, 0)", -1);
    }

    private static void group() {
        refuse(-4, "group(0)", "group(-1)", "group(" + LEAST + ")");
        refuse(-6, "group(9)", "group(" + MOST + ")");
    }

    private static void groupInAFullPark() {
        Calls.onNew("REFUSALS of group where there are 60: BELOW is told ahead of ROOM")
            .groups(0, 60, 1)
            .due("group(1)", -6).due("group(9)", -6).due("group(0)", -4)
            .dueEach("count(#)", FIRST_COUNT, 0, 0, 0, 1, 0, 2)
            .due("count(2)", 60).due("count(3)", 60).due("groupOf(60, 0)", -1);
    }

    private static void walk() {
        refuse(-1, "walk(0, 4, 5)", "walk(4, 0, 5)", "walk(-1, 0, 5)", "walk(0, -1, 5)", "walk(1, 1, 5)", "walk(4, 4, 5)");
        refuse(-4, "walk(0, 1, -1)", "walk(0, 1, " + LEAST + ")");
        refuse(-6, "walk(0, 1, 51)", "walk(0, 1, " + MOST + ")");
        refuse(-1, "walk(0, 4, -1)", "walk(4, 0, 51)", "walk(1, 1, -1)", "walk(1, 1, 51)");
    }

    private static void part() {
        refuse(-1, "part(4, 0, 0)", "part(-1, 0, 0)", "part(" + LEAST + ", 0, 0)", "part(" + MOST + ", 0, 0)");
        refuse(-4, "part(0, -1, 0)", "part(0, 0, -1)", "part(0, -1, -1)");
        refuse(-6, "part(0, 7, 0)", "part(0, 0, 100)", "part(0, 7, 100)");
        refuse(-1, "part(4, -1, 0)", "part(4, 41, 0)", "part(-1, 0, -1)", "part(-1, 0, 100)");
        refuse(-4, "part(0, -1, 100)", "part(0, 7, -1)");
    }

    private static void takeAndFree() {
        for (String name : new String[] {"take", "free"}) {
            refuse(-1, name + "(7, 0)", name + "(-1, 0)", name + "(5, 4)", name + "(5, -1)", name + "(7, 4)");
            refuse(-2, name + "(4, 0)");
            refuse(-6, name + "(0, 0)");
            refuse(-3, name + "(5, 1)", name + "(1, 3)");
            // Where two fit: NOBODY and STATE, NOBODY and ROOM, STATE and NONE, ROOM and NONE.
            refuse(-1, name + "(4, 4)", name + "(0, 4)");
            refuse(-2, name + "(4, 1)");
            refuse(-6, name + "(0, 1)");
        }
    }

    private static void give() {
        refuse(-1, "give(7, 0)", "give(-1, 0)", "give(0, 2)", "give(0, -1)", "give(5, 1)", "give(4, 0)", "give(1, 0)",
            "give(0, " + MOST + ")", "give(0, " + LEAST + ")");
    }

    private static void come() {
        refuse(-1, "come(7, 0)", "come(-1, 0)", "come(0, 4)", "come(0, -1)");
        refuse(-2, "come(1, 0)", "come(2, 0)", "come(3, 0)", "come(4, 0)", "come(6, 0)");
        refuse(-3, "come(0, 0)", "come(0, 1)", "come(5, 3)", "come(5, 0)");
        // NOBODY and STATE; NOBODY and NONE. Above, groups 1 to 4 have neither a TIME nor an ANY, and group 6 has one.
        refuse(-1, "come(1, 4)", "come(4, -1)", "come(7, 4)", "come(5, 4)");
    }

    private static void stand() {
        refuse(-1, "stand(7, 0)", "stand(-1, 0)", "stand(0, 4)", "stand(0, -1)");
        refuse(-2, "stand(1, 0)", "stand(2, 0)", "stand(3, 0)", "stand(4, 1)", "stand(6, 1)");
        refuse(-6, "stand(0, 2)", "stand(5, 2)");
        // NOBODY and STATE; STATE and ROOM.
        refuse(-1, "stand(1, 4)", "stand(4, -1)");
        refuse(-2, "stand(1, 2)", "stand(2, 2)", "stand(3, 2)", "stand(4, 2)", "stand(6, 0)");
    }

    private static void leave() {
        refuse(-1, "leave(7)", "leave(-1)", "leave(" + LEAST + ")", "leave(" + MOST + ")");
        refuse(-2, "leave(0)", "leave(3)", "leave(4)", "leave(5)");
    }

    private static void go() {
        refuse(-1, "go(7)", "go(-1)", "go(" + LEAST + ")", "go(" + MOST + ")");
        refuse(-2, "go(1)", "go(2)", "go(3)", "go(4)", "go(6)");
    }

    private static void ticks() {
        refuse(-4, "ticks(0)", "ticks(-1)", "ticks(" + LEAST + ")");
        refuse(-6, "ticks(4984)", "ticks(5000)", "ticks(5001)", "ticks(" + MOST + ")");
    }

    private static void waits() {
        refuse(-1, "wait(7)", "wait(-1)", "wait(" + LEAST + ")", "wait(" + MOST + ")");
        refuse(-2, "wait(0)", "wait(2)", "wait(3)", "wait(4)", "wait(5)");
        Calls.onNew("REFUSALS of wait: NONE")
            .due("ride(2, 20, 0, 0, 0)", 0)
            .due("group(2)", 0)
            .due("stand(0, 0)", 0)
            .due("part(0, 1, 0)", 1)
            .due("wait(0)", -3)
            .dueEach("count(#)", FIRST_COUNT, 0, 0, 1, 0, 0, 0)
            .dueEach("groupOf(0, #)", 1, 1, 0, 0)
            .due("part(0, 0, 0)", 1)
            .due("wait(0)", 1)
            .due("ticks(20)", 2);
    }

    private static void telling() {
        refuse(-1, "groupOf(7, 0)", "groupOf(-1, 0)", "groupOf(7, 9)", "groupOf(-1, -1)");
        refuse(-1, "time(7, 0, 0)", "time(-1, 0, 0)", "time(0, 2, 0)", "time(0, -1, 0)", "time(5, 1, 0)", "time(0, 2, 2)", "time(7, 0, -1)");
        refuse(-1, "rideOf(4, 0)", "rideOf(-1, 0)", "rideOf(4, 13)", "rideOf(-1, -1)");
        refuse(-1, "window(4, 0, 0)", "window(-1, 0, 0)", "window(0, -1, 0)", "window(0, -1, 2)", "window(4, -1, 0)", "window(4, 0, 2)");
        refuse(-1, "row(4, false, 0)", "row(-1, true, 0)", "row(4, true, -1)");
    }

    private static void whatIsNotRefusedAndChangesNothing() {
        changesNothing(0, "stop(4, true)", "stop(-1, false)", "stop(0, false)", "rain(false)");
        changesNothing(-9, "groupOf(0, 9)", "groupOf(0, -1)", "groupOf(0, 2)", "groupOf(0, 3)", "groupOf(4, 2)", "groupOf(3, 3)");
        changesNothing(-9, "time(0, 0, 2)", "time(0, 1, -1)", "rideOf(0, 13)", "rideOf(0, -1)", "window(0, 0, 2)", "window(0, 0, -1)");
        changesNothing(-9, "row(0, false, 1)", "row(0, true, -1)", "row(2, true, 0)", "count(7)", "count(10)", "count(17)", "count(-1)");
        changesNothing(1, "wait(1)", "wait(6)", "groupOf(2, 0)", "row(0, false, 0)", "rideOf(0, 6)");
        changesNothing(2, "free(2, 0)", "time(0, 0, 1)", "window(0, 2, 0)", "row(0, true, 0)", "groupOf(0, 4)");
        changesNothing(3, "free(5, 0)", "time(0, 1, 1)", "rideOf(1, 11)", "rideOf(0, 1)");
    }

    private static void refuse(int refusal, String... calls) {
        for (String call : calls) {
            Calls asked = aPark("REFUSALS: " + call);
            asked.due(call, refusal);
            heldAgainstAnother(asked, call, -1 - refusal);
        }
    }

    private static void changesNothing(int answer, String... calls) {
        for (String call : calls) {
            Calls asked = aPark("changes nothing: " + call);
            asked.due(call, answer);
            heldAgainstAnother(asked, call, -1);
        }
    }

    /** The other park was not asked; refusal is the place among the REFUSALS that is one more, or -1. */
    private static void heldAgainstAnother(Calls asked, String call, int refusal) {
        Calls other = aPark("the park that was not asked " + call);
        allAlike(asked, other, refusal);
        for (String later : new String[] {"stop(0, true)", "ticks(13)", "stop(0, false)", "ticks(3)", "go(5)"}) {
            alike(asked, other, later);
        }
        allAlike(asked, other, refusal);
        for (int a = 0; a < RIDES; a++) {
            for (int b = a + 1; b < RIDES; b++) {
                alike(asked, other, "walk(" + a + ", " + b + ", 0)");
            }
        }
    }

    private static void alike(Calls asked, Calls other, String call) {
        String got = asked.told(call);
        String want = other.told(call);
        if (!got.equals(want)) {
            asked.isWrong("then " + call + " answers " + got + ", and " + want + " without that call");
        }
    }

    private static void allAlike(Calls asked, Calls other, int refusal) {
        for (String what : whatIsTold(other)) {
            alike(asked, other, what);
        }
        for (int i = 0; i < 6; i++) {
            String count = "count(" + (FIRST_COUNT + i) + ")";
            int want = Integer.parseInt(other.told(count)) + (i == refusal ? 1 : 0);
            asked.due(count, want);
        }
    }

    /** Calls that only tell, none of which is refused. */
    private static List<String> whatIsTold(Calls park) {
        List<String> calls = new ArrayList<>();
        for (int what = 0; what <= 6; what++) {
            calls.add("count(" + what + ")");
        }
        for (int group = 0; group < GROUPS; group++) {
            for (int what = 0; what <= 8; what++) {
                calls.add("groupOf(" + group + ", " + what + ")");
            }
            int times = Integer.parseInt(park.told("groupOf(" + group + ", 4)"));
            for (int i = 0; i < times; i++) {
                calls.add("time(" + group + ", " + i + ", 0)");
                calls.add("time(" + group + ", " + i + ", 1)");
            }
        }
        for (int ride = 0; ride < RIDES; ride++) {
            for (int what = 0; what <= 12; what++) {
                calls.add("rideOf(" + ride + ", " + what + ")");
            }
            for (int i = 0; i < 2; i++) {
                calls.add("row(" + ride + ", false, " + i + ")");
                calls.add("row(" + ride + ", true, " + i + ")");
            }
            for (int window = 1; window <= 4; window++) {
                calls.add("window(" + ride + ", " + window + ", 0)");
            }
        }
        return calls;
    }
}
