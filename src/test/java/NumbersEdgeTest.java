/** Promises 1 to 5 and 14 at their edges: of each number the last that is taken and the first that is not, on both sides. */
public final class NumbersEdgeTest {
    private static final int LEAST = Integer.MIN_VALUE;
    private static final int MOST = Integer.MAX_VALUE;

    public static void main(String[] args) {
        newObjects();
        seats();
        rounds();
        parts();
        spares();
        kinds();
        eightRides();
        howMany();
        sixtyGroups();
        walks();
        walksAreTheSameBothWays();
        walksOfAllRides();
        partOfARide();
        partOfTheLeastAndTheGreatestRide();
        fiveThousandTicks();
        oneTickTooMany();
        calls512();
        Calls.finish();
    }

    private static void newObjects() {
        Calls.onNew("promise 1: No RIDES")
            .due("count(1)", 0).due("rideOf(0, 0)", -1).due("row(0, true, 0)", -1).due("ride(1, 1, 0, 0, 0)", 0);
        Calls.onNew("promise 1: no GROUPS")
            .due("count(2)", 0).due("count(3)", 0).due("groupOf(0, 0)", -1).due("group(1)", 0);
        Calls.onNew("promise 1: no rain")
            .due("ride(1, 1, 0, 0, 3)", 0).due("rideOf(0, 5)", 1).due("rain(false)", 0);
        Calls.onNew("TICKS go on from 0")
            .due("count(0)", 0).due("ticks(1)", 0).due("count(0)", 1);
    }

    private static void seats() {
        Calls.onNew("SEATS (1 .. 40)")
            .due("ride(" + LEAST + ", 1, 0, 0, 0)", -4)
            .due("ride(-1, 1, 0, 0, 0)", -4)
            .due("ride(0, 1, 0, 0, 0)", -4)
            .due("ride(1, 1, 0, 0, 0)", 0)
            .due("ride(40, 1, 0, 0, 0)", 1)
            .due("ride(41, 1, 0, 0, 0)", -6)
            .due("ride(" + MOST + ", 1, 0, 0, 0)", -6)
            .dueEach("rideOf(#, 0)", 0, 1, 40, -1);
    }

    private static void rounds() {
        Calls.onNew("a ROUND (1 .. 20 TICKS)")
            .due("ride(1, " + LEAST + ", 0, 0, 0)", -4)
            .due("ride(1, -1, 0, 0, 0)", -4)
            .due("ride(1, 0, 0, 0, 0)", -4)
            .due("ride(1, 1, 0, 0, 0)", 0)
            .due("ride(1, 20, 0, 0, 0)", 1)
            .due("ride(1, 21, 0, 0, 0)", -6)
            .due("ride(1, " + MOST + ", 0, 0, 0)", -6)
            .due("ride(1, 0, 0, 0, 2)", -4)
            .due("ride(1, 1, 0, 0, 2)", 2)
            .due("ride(1, 20, 0, 0, 2)", 3)
            .due("ride(1, 21, 0, 0, 2)", -6)
            .dueEach("rideOf(#, 1)", 0, 1, 20, 1, 20, -1);
    }

    private static void parts() {
        Calls.onNew("a PART of the SEATS (0 .. SEATS)")
            .due("ride(5, 1, " + LEAST + ", 0, 0)", -4)
            .due("ride(5, 1, -1, 0, 0)", -4)
            .due("ride(5, 1, 0, 0, 0)", 0)
            .due("ride(5, 1, 5, 0, 0)", 1)
            .due("ride(5, 1, 6, 0, 0)", -6)
            .due("ride(5, 1, " + MOST + ", 0, 0)", -6)
            .due("ride(1, 1, 1, 0, 0)", 2)
            .due("ride(1, 1, 2, 0, 0)", -6)
            .due("ride(40, 1, 40, 0, 0)", 3)
            .due("ride(40, 1, 41, 0, 0)", -6)
            .dueEach("rideOf(#, 2)", 0, 0, 5, 1, 40, -1);
    }

    private static void spares() {
        Calls.onNew("a SPARE (0 .. 99)")
            .due("ride(5, 1, 5, " + LEAST + ", 0)", -4)
            .due("ride(5, 1, 5, -1, 0)", -4)
            .due("ride(5, 1, 5, 0, 0)", 0)
            .due("ride(5, 1, 5, 99, 0)", 1)
            .due("ride(5, 1, 5, 100, 0)", -6)
            .due("ride(5, 1, 5, " + MOST + ", 0)", -6)
            .dueEach("rideOf(#, 3)", 0, 0, 99, -1);
    }

    private static void kinds() {
        Calls.onNew("a KIND: 0 RIDE, 1 SINGLE, 2 SHOW, 3 WET")
            .due("ride(5, 1, 5, 0, " + LEAST + ")", -4)
            .due("ride(5, 1, 5, 0, -1)", -4)
            .due("ride(5, 1, 5, 0, 0)", 0)
            .due("ride(5, 1, 5, 0, 1)", 1)
            .due("ride(5, 1, 5, 0, 2)", 2)
            .due("ride(5, 1, 5, 0, 3)", 3)
            .due("ride(5, 1, 5, 0, 4)", -6)
            .due("ride(5, 1, 5, 0, " + MOST + ")", -6)
            .dueEach("rideOf(#, 4)", 0, 0, 1, 2, 3, -1);
    }

    private static void eightRides() {
        Calls calls = Calls.onNew("RIDES have numbers from 0 on (8 at most)");
        for (int i = 0; i < 7; i++) {
            calls.due("ride(" + (i + 1) + ", 1, 0, 0, 0)", i);
        }
        calls.due("rideOf(7, 0)", -1)
            .due("stop(7, true)", 0)
            .due("ride(40, 20, 40, 99, 3)", 7)
            .due("ride(1, 1, 0, 0, 0)", -6)
            .due("ride(1, 1, 0, 0, 0)", -6)
            .due("count(1)", 8)
            .dueEach("rideOf(#, 0)", -1, -1, 1, 2, 3, 4, 5, 6, 7, 40, -1)
            .due("stop(7, true)", 1)
            .due("stop(8, true)", 0);
    }

    private static void howMany() {
        Calls.onNew("GROUPS: how many they are (1 .. 8)")
            .due("group(" + LEAST + ")", -4)
            .due("group(-1)", -4)
            .due("group(0)", -4)
            .due("group(1)", 0)
            .due("group(8)", 1)
            .due("group(9)", -6)
            .due("group(" + MOST + ")", -6)
            .dueEach("groupOf(#, 0)", -1, -1, 1, 8, -1)
            .due("count(2)", 2)
            .due("count(3)", 9);
    }

    private static void sixtyGroups() {
        Calls.onNew("GROUPS have numbers from 0 on (60 at most)")
            .groups(0, 59, 8)
            .due("groupOf(59, 0)", -1)
            .groups(59, 1, 8)
            .due("group(8)", -6)
            .due("group(1)", -6)
            .due("groupOf(59, 0)", 8)
            .due("groupOf(60, 0)", -1)
            .due("count(2)", 60)
            .due("count(3)", 480)
            .due("go(59)", 0)
            .due("group(8)", -6)
            .due("count(6)", 8);
    }

    private static void walks() {
        Calls.onNew("WALKS: so many TICKS (0 .. 50, 0 at first)")
            .due("ride(5, 1, 5, 0, 0)", 0).due("ride(5, 1, 5, 0, 0)", 1)
            .due("walk(0, 1, " + LEAST + ")", -4)
            .due("walk(0, 1, -1)", -4)
            .due("walk(0, 1, 0)", 0)
            .due("walk(0, 1, 50)", 0)
            .due("walk(0, 1, 51)", -6)
            .due("walk(0, 1, " + MOST + ")", -6)
            .due("walk(0, 1, 0)", 50)
            .due("walk(0, 1, 0)", 0);
    }

    private static void walksAreTheSameBothWays() {
        Calls.onNew("WALKS are the same both ways; of one RIDE there is none")
            .due("ride(5, 1, 5, 0, 0)", 0)
            .due("walk(0, 0, 1)", -1)
            .due("walk(0, 1, 1)", -1).due("walk(1, 0, 1)", -1)
            .due("ride(5, 1, 5, 0, 0)", 1)
            .due("walk(0, 1, 1)", 0).due("walk(1, 0, 2)", 1).due("walk(0, 1, 3)", 2)
            .due("walk(0, 0, 1)", -1).due("walk(1, 1, 0)", -1)
            .due("walk(0, 2, 1)", -1).due("walk(2, 0, 1)", -1)
            .due("walk(0, -1, 1)", -1).due("walk(-1, 0, 1)", -1)
            .due("walk(1, 0, 3)", 3);
    }

    private static void walksOfAllRides() {
        Calls calls = Calls.onNew("WALKS: between each two RIDES of eight, each its own");
        for (int i = 0; i < 8; i++) {
            calls.due("ride(5, 1, 5, 0, 0)", i);
        }
        int ticks = 0;
        for (int a = 0; a < 8; a++) {
            for (int b = a + 1; b < 8; b++) {
                ticks++;
                calls.due("walk(" + a + ", " + b + ", " + ticks + ")", 0);
            }
        }
        for (int a = 7; a >= 0; a--) {
            for (int b = 7; b > a; b--) {
                calls.due("walk(" + b + ", " + a + ", 0)", ticks);
                ticks--;
            }
        }
    }

    private static void partOfARide() {
        Calls.onNew("promise 5: PART (0 .. SEATS) and SPARE (0 .. 99) of a RIDE from now on")
            .due("ride(5, 1, 2, 3, 0)", 0)
            .due("part(0, " + LEAST + ", 0)", -4).due("part(0, -1, 0)", -4)
            .due("part(0, 6, 0)", -6).due("part(0, " + MOST + ", 0)", -6)
            .due("part(0, 0, " + LEAST + ")", -4).due("part(0, 0, -1)", -4)
            .due("part(0, 0, 100)", -6).due("part(0, 0, " + MOST + ")", -6)
            .due("part(1, 0, 0)", -1).due("part(-1, 0, 0)", -1)
            .dueEach("rideOf(0, #)", 2, 2, 3)
            .due("part(0, 0, 0)", 1)
            .dueEach("rideOf(0, #)", 2, 0, 0)
            .due("part(0, 5, 99)", 1)
            .dueEach("rideOf(0, #)", 2, 5, 99)
            .due("part(0, 5, 99)", 1)
            .dueEach("rideOf(0, #)", 0, 5, 1, 5, 99, 0, 1);
    }

    private static void partOfTheLeastAndTheGreatestRide() {
        Calls.onNew("promise 5: a PART above the RIDE's own SEATS")
            .due("ride(1, 1, 0, 0, 0)", 0).due("ride(40, 1, 0, 0, 0)", 1)
            .due("part(0, 1, 0)", 1).due("part(0, 2, 0)", -6)
            .due("part(1, 40, 0)", 1).due("part(1, 41, 0)", -6)
            .dueEach("rideOf(#, 2)", 0, 1, 40);
    }

    private static void fiveThousandTicks() {
        Calls.onNew("promise 14: TICKS (5000 at most), in one call")
            .due("ticks(" + LEAST + ")", -4).due("ticks(-1)", -4).due("ticks(0)", -4)
            .due("ticks(5001)", -6).due("ticks(" + MOST + ")", -6)
            .due("count(0)", 0)
            .due("ticks(5000)", 0)
            .due("count(0)", 5000)
            .due("ticks(1)", -6).due("ticks(" + MOST + ")", -6).due("ticks(0)", -4).due("ticks(" + LEAST + ")", -4)
            .due("count(0)", 5000);
    }

    private static void oneTickTooMany() {
        Calls.onNew("promise 14: a call that is refused lets no TICK pass, not even those that there are")
            .due("ride(2, 1, 0, 0, 0)", 0)
            .due("group(2)", 0)
            .due("ticks(1)", 0)
            .due("ticks(4998)", 0)
            .due("stand(0, 0)", 0)
            .due("ticks(2)", -6)
            .due("count(0)", 4999).due("rideOf(0, 12)", 4999).due("groupOf(0, 1)", 1)
            .due("ticks(1)", 2)
            .due("count(0)", 5000).due("rideOf(0, 12)", 5000).due("groupOf(0, 1)", 3);
    }

    private static void calls512() {
        Calls calls = Calls.onNew("an object is used for at most 512 calls: the last of them is still answered");
        for (int i = 0; i < 511; i++) {
            calls.due("leave(0)", -1);
        }
        calls.due("count(11)", 511);
    }
}
