/** Promises 1 to 5: a new object, ride, group, walk, part. */
public final class MakingTest {
    private static final int LEAST = Integer.MIN_VALUE;
    private static final int MOST = Integer.MAX_VALUE;

    public static void main(String[] args) {
        newObject();
        rides();
        ridesRefused();
        noNinthRide();
        groups();
        noSixtyFirstGroup();
        walks();
        parts();
        partsKeepWhatWasGiven();
        Calls.finish();
    }

    private static void newObject() {
        Calls.onNew("promise 1, a new object")
            .dueEach("count(#)", 0, 0, 0, 0, 0, 0, 0, 0)
            .dueEach("count(#)", 11, 0, 0, 0, 0, 0, 0)
            .due("rideOf(0, 0)", -1)
            .due("groupOf(0, 0)", -1)
            .due("rain(false)", 0)
            .due("rain(true)", 1);
    }

    private static void rides() {
        Calls.onNew("promise 2, rides with the least and the greatest numbers")
            .due("ride(1, 1, 0, 0, 0)", 0)
            .due("ride(40, 20, 40, 99, 3)", 1)
            .due("ride(7, 3, 2, 5, 2)", 2)
            .due("ride(7, 3, 7, 5, 1)", 3)
            .dueEach("rideOf(0, #)", 0, 1, 1, 0, 0, 0, 1, 0, 0, 0, 0, 0, 0, 0)
            .dueEach("rideOf(1, #)", 0, 40, 20, 40, 99, 3, 1, 0, 0, 0, 0, 0, 0, 0)
            .dueEach("rideOf(2, #)", 0, 7, 3, 2, 5, 2, 1, 0, 0, 0, 0, 0, 0, 0)
            .due("stop(2, false)", 0)
            .due("count(1)", 4);
    }

    private static void ridesRefused() {
        Calls.onNew("promise 2, rides that are refused")
            .due("ride(0, 1, 0, 0, 0)", -4)
            .due("ride(1, 0, 0, 0, 0)", -4)
            .due("ride(1, 1, -1, 0, 0)", -4)
            .due("ride(1, 1, 0, -1, 0)", -4)
            .due("ride(1, 1, 0, 0, -1)", -4)
            .due("ride(41, 1, 0, 0, 0)", -6)
            .due("ride(40, 21, 0, 0, 0)", -6)
            .due("ride(5, 1, 6, 0, 0)", -6)
            .due("ride(5, 1, 5, 100, 0)", -6)
            .due("ride(5, 1, 5, 0, 4)", -6)
            .due("ride(41, 1, 0, 0, -1)", -4)
            .due("ride(0, 21, 50, 100, 4)", -4)
            .due("ride(" + LEAST + ", 1, 0, 0, 0)", -4)
            .due("ride(" + MOST + ", " + MOST + ", " + MOST + ", " + MOST + ", " + MOST + ")", -6)
            .due("count(1)", 0)
            .due("count(14)", 8)
            .due("count(16)", 6)
            .due("ride(5, 1, 5, 99, 3)", 0);
    }

    private static void noNinthRide() {
        Calls.onNew("promise 2, eight rides at most")
            .due("ride(2, 1, 0, 0, 0)", 0).due("ride(2, 1, 0, 0, 1)", 1)
            .due("ride(2, 1, 0, 0, 2)", 2).due("ride(2, 1, 0, 0, 3)", 3)
            .due("ride(2, 1, 0, 0, 0)", 4).due("ride(2, 1, 0, 0, 0)", 5)
            .due("ride(2, 1, 0, 0, 0)", 6).due("ride(2, 1, 0, 0, 0)", 7)
            .due("ride(2, 1, 0, 0, 0)", -6)
            .due("ride(0, 1, 0, 0, 0)", -4)
            .due("count(1)", 8)
            .due("rideOf(7, 0)", 2)
            .due("rideOf(8, 0)", -1);
    }

    private static void groups() {
        Calls.onNew("promise 3, groups")
            .due("group(1)", 0)
            .due("group(8)", 1)
            .due("group(0)", -4)
            .due("group(9)", -6)
            .due("group(" + LEAST + ")", -4)
            .due("group(" + MOST + ")", -6)
            .due("count(2)", 2)
            .due("count(3)", 9)
            .dueEach("groupOf(0, #)", 0, 1, 0, -9, -9, 0, 0, 0, 0, 0)
            .dueEach("groupOf(1, #)", 0, 8, 0, -9, -9, 0, 0, 0, 0, 0);
    }

    private static void noSixtyFirstGroup() {
        Calls calls = Calls.onNew("promise 3, sixty groups at most");
        for (int i = 0; i < 60; i++) {
            calls.due("group(1)", i);
        }
        calls.due("group(1)", -6)
            .due("group(0)", -4)
            .due("count(2)", 60)
            .due("groupOf(59, 0)", 1)
            .due("groupOf(60, 0)", -1);
    }

    private static void walks() {
        Calls.onNew("promise 4, walks")
            .due("ride(2, 1, 1, 0, 0)", 0)
            .due("ride(2, 1, 1, 0, 0)", 1)
            .due("ride(2, 1, 1, 0, 0)", 2)
            .due("walk(0, 1, 50)", 0)
            .due("walk(1, 0, 7)", 50)
            .due("walk(0, 1, 0)", 7)
            .due("walk(0, 1, 3)", 0)
            .due("walk(0, 2, 9)", 0)
            .due("walk(2, 1, 4)", 0)
            .due("walk(2, 0, 1)", 9)
            .due("walk(1, 2, 1)", 4)
            .due("walk(1, 0, 1)", 3)
            .due("walk(0, 1, -1)", -4)
            .due("walk(0, 1, 51)", -6)
            .due("walk(0, 1, " + LEAST + ")", -4)
            .due("walk(0, 1, " + MOST + ")", -6)
            .due("walk(1, 1, 5)", -1)
            .due("walk(1, 1, -1)", -1)
            .due("walk(0, 3, 51)", -1)
            .due("walk(3, 0, 5)", -1)
            .due("walk(-1, 0, 5)", -1)
            .due("walk(0, -1, 5)", -1)
            .due("walk(" + LEAST + ", " + MOST + ", 5)", -1)
            .due("walk(0, 1, 1)", 1);
    }

    private static void parts() {
        Calls.onNew("promise 5, part")
            .due("ride(5, 1, 2, 3, 0)", 0)
            .due("part(0, 5, 99)", 1)
            .dueEach("rideOf(0, #)", 2, 5, 99)
            .due("window(0, 3, 1)", 0)
            .due("part(0, 0, 0)", 1)
            .dueEach("rideOf(0, #)", 2, 0, 0)
            .due("part(0, 4, 6)", 1)
            .due("window(0, 3, 1)", 14)
            .due("part(0, -1, 0)", -4)
            .due("part(0, 0, -1)", -4)
            .due("part(0, 6, -1)", -4)
            .due("part(0, -1, 100)", -4)
            .due("part(0, 6, 0)", -6)
            .due("part(0, 0, 100)", -6)
            .due("part(1, -1, 0)", -1)
            .due("part(-1, 9, 0)", -1)
            .dueEach("rideOf(0, #)", 2, 4, 6);
    }

    private static void partsKeepWhatWasGiven() {
        Calls.onNew("promise 5, given stays above room")
            .due("ride(5, 1, 2, 0, 0)", 0)
            .due("group(6)", 0).due("group(4)", 1).due("group(1)", 2)
            .due("take(0, 0)", 1)
            .due("take(1, 0)", 1)
            .due("part(0, 1, 2)", 1)
            .due("window(0, 1, 0)", 10)
            .due("window(0, 1, 1)", 3)
            .due("take(2, 0)", 2)
            .due("give(0, 0)", 1)
            .due("window(0, 1, 0)", 4);
    }
}
