/** Promises 6, 7, 16, 18, 20: take, give, free, time, window. */
public final class TimesTest {
    private static final int LEAST = Integer.MIN_VALUE;
    private static final int MOST = Integer.MAX_VALUE;

    public static void main(String[] args) {
        takeFillsWindows();
        takeIsRefused();
        takeBehindTheWindowOfNow();
        takeLooksAtFortyWindows();
        takeAtTheLastTick();
        takeWithAnyStateButGone();
        overlapsWithAnEarlierTime();
        overlapsWithALaterTime();
        overlapsOfUnlikeWindows();
        overlapsWithEachOfTwo();
        windowsOfAShow();
        gives();
        freeChangesNothing();
        timesAreTold();
        windowsAreTold();
        Calls.finish();
    }

    private static void takeFillsWindows() {
        Calls.onNew("promise 6, windows are never fuller than their room")
            .due("ride(6, 2, 2, 3, 0)", 0)
            .due("group(4)", 0).due("group(4)", 1).due("group(3)", 2).due("group(7)", 3).due("group(8)", 4)
            .due("take(0, 0)", 1)
            .due("take(1, 0)", 2)
            .due("take(2, 0)", 1)
            .due("take(3, 0)", 3)
            .due("take(4, 0)", -3)
            .dueEach("window(0, #, 0)", 0, 0, 7, 4, 7, 0)
            .due("take(2, 0)", 2)
            .dueEach("groupOf(#, 4)", 0, 1, 1, 2, 1, 0);
    }

    private static void takeIsRefused() {
        Calls.onNew("promise 6, refusals of take and free, in their order")
            .due("ride(6, 2, 2, 3, 0)", 0)
            .due("ride(6, 2, 0, 0, 0)", 1)
            .due("group(1)", 0).due("group(1)", 1).due("group(8)", 2)
            .due("take(3, 0)", -1).due("free(3, 0)", -1)
            .due("take(-1, 0)", -1).due("free(-1, 0)", -1)
            .due("take(0, 2)", -1).due("free(0, 2)", -1)
            .due("take(0, -1)", -1).due("free(0, -1)", -1)
            .due("take(" + MOST + ", " + LEAST + ")", -1).due("free(" + LEAST + ", " + MOST + ")", -1)
            .due("take(0, 1)", -3).due("free(0, 1)", -3)
            .due("take(2, 0)", -3).due("free(2, 0)", -3)
            .due("take(0, 0)", 1).due("take(0, 0)", 2)
            .due("take(0, 0)", -6).due("free(0, 0)", -6)
            .due("take(0, 1)", -6).due("free(0, 1)", -6)
            .due("take(0, 2)", -1).due("free(0, 2)", -1)
            .due("go(1)", 0)
            .due("take(1, 0)", -2).due("free(1, 0)", -2)
            .due("take(1, 1)", -2).due("free(1, 1)", -2)
            .due("take(1, 2)", -1).due("free(1, 2)", -1)
            .dueEach("count(#)", 11, 14, 4, 4, 0, 0, 4);
    }

    private static void takeBehindTheWindowOfNow() {
        Calls.onNew("promise 6, the first window is the one behind that of now")
            .due("ride(6, 2, 2, 0, 0)", 0)
            .due("group(1)", 0).due("group(1)", 1).due("group(1)", 2)
            .due("ticks(9)", 0)
            .due("take(0, 0)", 1)
            .due("ticks(1)", 0)
            .due("take(1, 0)", 2)
            .due("ticks(9)", 0)
            .due("take(2, 0)", 2)
            .due("take(1, 0)", 3);
    }

    private static void takeLooksAtFortyWindows() {
        Scenes.withFortyFullWindows("promise 6, forty windows and no more")
            .due("free(20, 0)", -3)
            .due("take(20, 0)", -3)
            .due("window(0, 40, 0)", 1)
            .due("window(0, 41, 0)", 0)
            .due("ticks(4)", 0)
            .due("take(20, 0)", -3)
            .due("ticks(1)", 0)
            .due("take(20, 0)", 41)
            .due("take(20, 0)", -3);
    }

    private static void takeAtTheLastTick() {
        Calls calls = Calls.onNew("promise 6, at TICK 5000")
            .due("ride(1, 1, 1, 4, 0)", 0);
        for (int i = 0; i < 21; i++) {
            calls.due("group(1)", i);
        }
        calls.due("ticks(5000)", 0);
        for (int i = 0; i < 20; i++) {
            calls.due("take(" + i + ", 0)", 1001 + 2 * i).due("take(" + i + ", 0)", 1002 + 2 * i);
        }
        calls.due("take(20, 0)", -3)
            .due("window(0, 1040, 0)", 1)
            .due("give(19, 1)", 1040)
            .due("take(20, 0)", 1040)
            .due("go(20)", 1)
            .due("window(0, 1040, 0)", 0);
    }

    private static void takeWithAnyStateButGone() {
        Calls.onNew("promise 6, who stands, is back or is on takes, too")
            .due("ride(6, 3, 2, 0, 0)", 0)
            .due("group(1)", 0)
            .due("stand(0, 0)", 0)
            .due("take(0, 0)", 1)
            .due("ticks(3)", 1)
            .due("groupOf(0, 1)", 3)
            .due("take(0, 0)", 2)
            .due("ticks(12)", 0)
            .due("come(0, 0)", 0)
            .due("take(0, 0)", 3);
    }

    private static void overlapsWithAnEarlierTime() {
        Calls.onNew("promise 6, overlaps: the time that is there ends, then a walk")
            .due("ride(6, 1, 2, 0, 0)", 0)
            .due("ride(6, 1, 2, 0, 0)", 1)
            .due("group(1)", 0)
            .due("take(0, 0)", 1)
            .due("free(0, 0)", 2)
            .due("free(0, 1)", 2)
            .due("walk(0, 1, 1)", 0).due("free(0, 1)", 3)
            .due("walk(0, 1, 5)", 1).due("free(0, 1)", 3)
            .due("walk(0, 1, 6)", 5).due("free(0, 1)", 4)
            .due("walk(0, 1, 50)", 6).due("free(0, 1)", 12)
            .due("free(0, 0)", 2)
            .due("take(0, 1)", 12);
    }

    private static void overlapsWithALaterTime() {
        Calls.onNew("promise 6, overlaps: the new time ends, then a walk")
            .due("ride(6, 1, 2, 0, 0)", 0)
            .due("ride(6, 3, 2, 0, 0)", 1)
            .due("group(1)", 0)
            .due("take(0, 1)", 1)
            .due("free(0, 0)", 1)
            .due("walk(1, 0, 5)", 0).due("free(0, 0)", 1)
            .due("walk(1, 0, 6)", 5).due("free(0, 0)", 8)
            .due("walk(1, 0, 10)", 6).due("free(0, 0)", 8)
            .due("walk(1, 0, 11)", 10).due("free(0, 0)", 9);
    }

    private static void overlapsOfUnlikeWindows() {
        Calls.onNew("promise 6, overlaps: a short window inside a long one")
            .due("ride(6, 1, 2, 0, 0)", 0)
            .due("ride(6, 20, 2, 0, 0)", 1)
            .due("group(1)", 0).due("group(1)", 1)
            .due("ticks(98)", 0)
            .due("take(0, 1)", 1)
            .due("free(0, 0)", 40)
            .due("take(1, 0)", 20)
            .due("free(1, 1)", 2);
    }

    private static void overlapsWithEachOfTwo() {
        Calls.onNew("promise 6, the time that was given back is not looked at any more")
            .due("ride(6, 1, 2, 0, 0)", 0)
            .due("ride(6, 1, 2, 0, 0)", 1)
            .due("group(1)", 0)
            .due("take(0, 0)", 1)
            .due("take(0, 1)", 2)
            .due("give(0, 0)", 1)
            .due("take(0, 1)", 1)
            .due("give(0, 0)", 2)
            .due("take(0, 0)", 2);
    }

    private static void windowsOfAShow() {
        Calls.onNew("promise 6, windows of a show are 15 rounds long")
            .due("ride(6, 2, 2, 0, 2)", 0)
            .due("group(1)", 0).due("group(1)", 1)
            .due("ticks(29)", 0)
            .due("take(0, 0)", 1)
            .due("rideOf(0, 11)", 0)
            .due("ticks(1)", 0)
            .due("rideOf(0, 11)", 1)
            .due("take(1, 0)", 2)
            .due("window(0, 1, 1)", 10);
    }

    private static void gives() {
        Calls.onNew("promise 7, give")
            .due("ride(6, 1, 2, 0, 0)", 0)
            .due("ride(6, 2, 2, 0, 0)", 1)
            .due("group(3)", 0).due("group(2)", 1)
            .due("give(0, 0)", -1)
            .due("take(0, 0)", 1).due("take(0, 1)", 1).due("take(1, 0)", 1)
            .due("give(0, 2)", -1).due("give(0, -1)", -1).due("give(1, 1)", -1)
            .due("give(2, 0)", -1).due("give(-1, 0)", -1)
            .due("give(0, " + LEAST + ")", -1).due("give(0, " + MOST + ")", -1)
            .due("window(0, 1, 0)", 5)
            .due("give(0, 0)", 1)
            .due("window(0, 1, 0)", 2)
            .due("window(1, 1, 0)", 3)
            .due("time(0, 0, 0)", 1)
            .due("time(0, 1, 0)", -1)
            .due("groupOf(0, 4)", 1)
            .due("take(0, 0)", 1)
            .due("give(0, 1)", 1)
            .due("time(0, 0, 0)", 1)
            .due("give(0, 0)", 1)
            .due("give(0, 0)", -1)
            .due("window(1, 1, 0)", 0)
            .due("count(11)", 10);
    }

    private static void freeChangesNothing() {
        Calls.onNew("promise 16, free changes nothing")
            .due("ride(6, 1, 2, 0, 0)", 0)
            .due("group(6)", 0).due("group(5)", 1)
            .due("free(0, 0)", 1)
            .due("free(0, 0)", 1)
            .due("groupOf(0, 4)", 0)
            .due("window(0, 1, 0)", 0)
            .due("take(1, 0)", 1)
            .due("free(0, 0)", 2)
            .due("take(0, 0)", 2)
            .dueEach("count(#)", 11, 0, 0, 0, 0, 0, 0);
    }

    private static void timesAreTold() {
        Calls.onNew("promise 18, time")
            .due("ride(6, 1, 2, 0, 0)", 0)
            .due("ride(6, 2, 2, 0, 0)", 1)
            .due("group(3)", 0)
            .due("take(0, 1)", 1)
            .due("take(0, 0)", 1)
            .due("time(0, 0, 0)", 1).due("time(0, 0, 1)", 1)
            .due("time(0, 1, 0)", 0).due("time(0, 1, 1)", 1)
            .due("time(0, 0, 2)", -9).due("time(0, 0, -1)", -9)
            .due("time(0, 0, " + LEAST + ")", -9).due("time(0, 0, " + MOST + ")", -9)
            .due("time(0, 2, 0)", -1).due("time(0, -1, 0)", -1)
            .due("time(1, 0, 0)", -1).due("time(-1, 0, 0)", -1)
            .due("time(0, 2, 5)", -1).due("time(1, 0, 5)", -1)
            .due("time(0, " + LEAST + ", 0)", -1).due("time(0, " + MOST + ", 0)", -1)
            .due("count(11)", 8);
    }

    private static void windowsAreTold() {
        Calls.onNew("promise 20, window")
            .due("ride(6, 1, 2, 3, 0)", 0)
            .due("ride(6, 1, 1, 6, 0)", 1)
            .due("group(3)", 0)
            .due("take(0, 0)", 1)
            .due("window(0, 0, 0)", 0).due("window(0, 0, 1)", 7)
            .due("window(0, 1, 0)", 3).due("window(0, 1, 1)", 7)
            .due("window(1, 1, 1)", 0)
            .due("window(0, 1040, 0)", 0).due("window(0, 1041, 0)", 0)
            .due("window(0, " + MOST + ", 0)", 0).due("window(0, " + MOST + ", 1)", 7)
            .due("window(0, -1, 0)", -1).due("window(0, " + LEAST + ", 1)", -1)
            .due("window(2, 0, 0)", -1).due("window(-1, 0, 0)", -1)
            .due("window(0, 1, 2)", -9).due("window(0, 1, -1)", -9)
            .due("window(0, -1, 2)", -1).due("window(2, 0, 7)", -1)
            .due("count(11)", 6);
    }
}
