/** Promises 8 to 11, 15, 17, 21: come, stand, leave, go, wait, groupOf, row. */
public final class RowsTest {
    private static final int LEAST = Integer.MIN_VALUE;
    private static final int MOST = Integer.MAX_VALUE;

    public static void main(String[] args) {
        comeUsesATime();
        comeOnlyInsideTheWindow();
        comeUsesATimeAheadOfAnAny();
        comeUsesTheFirstOfTwoAlike();
        comeIsRefused();
        stands();
        standIsRefused();
        leaves();
        leaveKeepsWhatWasUsed();
        goes();
        waits();
        waitsWithPart();
        waitIsRefused();
        waitNever();
        groupsAreTold();
        rowsAreTold();
        Calls.finish();
    }

    private static void comeUsesATime() {
        Calls.onNew("promise 8, come uses the time; given stays")
            .due("ride(6, 2, 2, 0, 0)", 0)
            .due("group(2)", 0).due("group(3)", 1).due("group(1)", 2)
            .due("take(0, 0)", 1).due("take(1, 0)", 1).due("take(0, 0)", 2)
            .due("ticks(11)", 0)
            .due("come(1, 0)", 0)
            .due("come(0, 0)", 1)
            .due("window(0, 1, 0)", 5)
            .dueEach("groupOf(0, #)", 1, 2, 0, 1, 1, 0, 0, 0, 0)
            .dueEach("groupOf(1, #)", 1, 2, 0, 0, 0, 0, 0, 0, 0)
            .due("time(0, 0, 1)", 2)
            .due("rideOf(0, 7)", 2)
            .due("rideOf(0, 6)", 0)
            .due("come(2, 0)", -3);
    }

    private static void comeOnlyInsideTheWindow() {
        Calls.onNew("promise 8, the first and the last tick of the window")
            .due("ride(6, 2, 2, 0, 0)", 0)
            .due("ride(6, 2, 2, 0, 0)", 1)
            .due("group(1)", 0).due("group(1)", 1).due("group(1)", 2)
            .due("take(0, 0)", 1).due("take(1, 0)", 1).due("take(2, 0)", 1)
            .due("come(0, 0)", -3)
            .due("ticks(9)", 0)
            .due("come(0, 0)", -3)
            .due("ticks(1)", 0)
            .due("come(0, 1)", -3)
            .due("come(0, 0)", 0)
            .due("ticks(9)", 1)
            .due("come(1, 0)", 0)
            .due("ticks(1)", 1)
            .due("come(2, 0)", -3)
            .dueEach("groupOf(#, 7)", 0, 0, 0, 1);
    }

    private static void comeUsesATimeAheadOfAnAny() {
        withAnAny("promise 8, a time is used ahead of an any")
            .due("ride(6, 1, 2, 0, 0)", 1)
            .due("take(0, 1)", 3)
            .due("ticks(5)", 0)
            .due("come(0, 1)", 0)
            .due("groupOf(0, 4)", 0).due("groupOf(0, 5)", 1)
            .due("leave(0)", 1)
            .due("come(0, 1)", 0)
            .due("groupOf(0, 5)", 0)
            .due("leave(0)", 1)
            .due("come(0, 1)", -3);
        withAnAny("promise 8, an any is used at a ride for which the time is not")
            .due("ride(6, 1, 2, 0, 0)", 1)
            .due("take(0, 1)", 3)
            .due("come(0, 1)", 0)
            .due("groupOf(0, 4)", 1).due("groupOf(0, 5)", 0);
    }

    /** TICK 10; group 0, of two, has an any: its time at ride 0, which is stopped, found no room. */
    private static Calls withAnAny(String title) {
        return Calls.onNew(title)
            .due("ride(6, 1, 2, 0, 0)", 0)
            .due("group(2)", 0)
            .due("take(0, 0)", 1)
            .due("part(0, 0, 0)", 1)
            .due("stop(0, true)", 1)
            .due("ticks(9)", 0)
            .due("groupOf(0, 4)", 1).due("groupOf(0, 5)", 0)
            .due("ticks(1)", 0)
            .due("groupOf(0, 4)", 0).due("groupOf(0, 5)", 1);
    }

    private static void comeUsesTheFirstOfTwoAlike() {
        Calls.onNew("promise 8, two times that were moved into one window are used one by one")
            .due("ride(6, 1, 2, 0, 0)", 0)
            .due("group(2)", 0)
            .due("take(0, 0)", 1).due("take(0, 0)", 2)
            .due("stop(0, true)", 1)
            .due("ticks(10)", 0)
            .due("time(0, 0, 1)", 2).due("time(0, 1, 1)", 2)
            .due("window(0, 2, 0)", 4)
            .due("come(0, 0)", 0).due("groupOf(0, 4)", 1)
            .due("leave(0)", 0)
            .due("come(0, 0)", 0).due("groupOf(0, 4)", 0)
            .due("leave(0)", 0)
            .due("come(0, 0)", -3)
            .due("window(0, 2, 0)", 4);
    }

    private static void comeIsRefused() {
        Calls.onNew("promise 8, refusals of come, in their order")
            .due("ride(6, 1, 2, 0, 0)", 0)
            .due("group(2)", 0)
            .due("come(1, 0)", -1).due("come(-1, 0)", -1)
            .due("come(0, 1)", -1).due("come(0, -1)", -1)
            .due("come(" + LEAST + ", " + MOST + ")", -1)
            .due("come(0, 0)", -3)
            .due("stand(0, 0)", 0)
            .due("come(0, 0)", -2)
            .due("come(0, 1)", -1)
            .due("ticks(1)", 2)
            .due("come(0, 0)", -2)
            .due("ticks(1)", 0)
            .due("go(0)", 0)
            .due("come(0, 0)", -2)
            .dueEach("count(#)", 11, 6, 3, 1, 0, 0, 0);
    }

    private static void stands() {
        Calls.onNew("promise 9, stand")
            .due("ride(6, 1, 2, 0, 0)", 0)
            .due("ride(4, 1, 0, 0, 0)", 1)
            .due("group(4)", 0).due("group(5)", 1).due("group(1)", 2).due("group(4)", 3)
            .due("stand(1, 0)", -6)
            .due("stand(0, 0)", 0)
            .due("stand(2, 0)", 1)
            .due("stand(3, 1)", 0)
            .due("stand(1, 1)", -6)
            .dueEach("groupOf(2, #)", 1, 1, 0, 1)
            .dueEach("groupOf(3, #)", 1, 1, 1, 0)
            .due("part(0, 1, 0)", 1)
            .due("stand(1, 0)", 2)
            .due("rideOf(0, 6)", 3);
    }

    private static void standIsRefused() {
        Calls.onNew("promise 9, refusals of stand, in their order")
            .due("ride(6, 1, 2, 0, 0)", 0)
            .due("ride(1, 1, 0, 0, 0)", 1)
            .due("group(2)", 0).due("group(8)", 1)
            .due("stand(2, 0)", -1).due("stand(-1, 0)", -1)
            .due("stand(0, 2)", -1).due("stand(0, -1)", -1)
            .due("stand(" + MOST + ", " + LEAST + ")", -1)
            .due("stand(1, 0)", -6)
            .due("stand(0, 0)", 0)
            .due("stand(0, 0)", -2).due("stand(0, 1)", -2).due("stand(0, 2)", -1)
            .due("ticks(1)", 2)
            .due("stand(0, 0)", -2)
            .due("go(1)", 0)
            .due("stand(1, 0)", -2)
            .dueEach("count(#)", 11, 6, 4, 0, 0, 0, 1);
    }

    private static void leaves() {
        Calls.onNew("promise 10, leave")
            .due("ride(6, 20, 2, 0, 0)", 0)
            .due("ride(6, 20, 2, 0, 0)", 1)
            .due("group(1)", 0).due("group(2)", 1).due("group(3)", 2).due("group(4)", 3)
            .due("stand(0, 1)", 0).due("stand(1, 1)", 1).due("stand(2, 1)", 2)
            .due("leave(3)", -2)
            .due("leave(4)", -1).due("leave(-1)", -1).due("leave(" + MOST + ")", -1)
            .due("leave(1)", 1)
            .dueEach("groupOf(1, #)", 1, 0, -9, -9)
            .dueEach("row(1, false, #)", 0, 0, 2, -9)
            .due("groupOf(2, 3)", 1)
            .due("leave(1)", -2)
            .due("stand(1, 1)", 2)
            .due("leave(0)", 1)
            .due("stand(0, 0)", 0)
            .due("leave(0)", 0)
            .dueEach("row(1, false, #)", 0, 2, 1, -9)
            .due("ticks(20)", 5)
            .due("leave(2)", -2)
            .due("go(3)", 0)
            .due("leave(3)", -2);
    }

    private static void leaveKeepsWhatWasUsed() {
        Calls.onNew("promise 10, what was used stays so")
            .due("ride(6, 1, 2, 0, 0)", 0)
            .due("group(2)", 0).due("group(2)", 1)
            .due("take(0, 0)", 1).due("take(1, 0)", 1)
            .due("ticks(5)", 0)
            .due("come(0, 0)", 0).due("come(1, 0)", 1)
            .due("leave(0)", 0)
            .due("groupOf(0, 4)", 0)
            .due("groupOf(1, 3)", 0)
            .due("window(0, 1, 0)", 4)
            .due("come(0, 0)", -3)
            .due("ticks(5)", 2)
            .due("groupOf(0, 7)", 0);
    }

    private static void goes() {
        Calls.onNew("promise 11, go")
            .due("ride(6, 5, 2, 0, 0)", 0)
            .due("group(2)", 0).due("group(3)", 1).due("group(1)", 2)
            .due("take(0, 0)", 1).due("take(0, 0)", 2).due("take(1, 0)", 1)
            .due("go(3)", -1).due("go(-1)", -1).due("go(" + LEAST + ")", -1)
            .due("go(0)", 2)
            .dueEach("window(0, #, 0)", 1, 3, 0)
            .dueEach("groupOf(0, #)", 0, 2, 4, -9, -9, 0, 0, 0, 0, 0)
            .due("give(0, 0)", -1)
            .due("go(0)", -2)
            .due("stand(2, 0)", 0)
            .due("go(2)", -2)
            .due("ticks(5)", 1)
            .due("go(2)", -2)
            .due("ticks(5)", 0)
            .due("go(2)", 0)
            .due("go(1)", 1)
            .dueEach("window(0, #, 0)", 1, 0, 0)
            .due("count(6)", 6)
            .due("count(3)", 6)
            .due("ticks(40)", 0)
            .due("groupOf(1, 7)", 0);
    }

    private static void waits() {
        Calls.onNew("promise 15, wait goes through the row")
            .due("ride(8, 1, 0, 0, 0)", 0)
            .due("group(4)", 0).due("group(5)", 1).due("group(3)", 2)
            .due("group(1)", 3).due("group(8)", 4).due("group(1)", 5)
            .due("stand(0, 0)", 0).due("stand(1, 0)", 1).due("stand(2, 0)", 2)
            .due("stand(3, 0)", 3).due("stand(4, 0)", 4).due("stand(5, 0)", 5)
            .dueEach("wait(#)", 0, 1, 2, 2, 3, 4, 5)
            .due("leave(1)", 0)
            .due("wait(0)", 1).due("wait(2)", 1).due("wait(3)", 1).due("wait(4)", 2).due("wait(5)", 3)
            .due("stop(0, true)", 1)
            .due("wait(5)", 3)
            .due("stop(0, false)", 1)
            .due("ticks(1)", 8)
            .due("wait(4)", 1).due("wait(5)", 2);
    }

    private static void waitsWithPart() {
        Calls.onNew("promise 15, the part is taken, and single seats do not help")
            .due("ride(5, 1, 2, 0, 1)", 0)
            .due("group(2)", 0).due("group(2)", 1).due("group(1)", 2).due("group(3)", 3)
            .due("stand(0, 0)", 0).due("stand(1, 0)", 1).due("stand(2, 0)", 2).due("stand(3, 0)", 3)
            .dueEach("wait(#)", 0, 1, 2, 2, 3)
            .due("ticks(1)", 5)
            .due("wait(3)", 1)
            .due("part(0, 3, 0)", 1)
            .due("wait(3)", -3);
    }

    private static void waitIsRefused() {
        Calls.onNew("promise 15, refusals of wait")
            .due("ride(5, 2, 2, 0, 0)", 0)
            .due("group(2)", 0).due("group(1)", 1).due("group(1)", 2)
            .due("wait(3)", -1).due("wait(-1)", -1).due("wait(" + LEAST + ")", -1).due("wait(" + MOST + ")", -1)
            .due("wait(0)", -2)
            .due("take(1, 0)", 1)
            .due("ticks(9)", 0)
            .due("stand(0, 0)", 0)
            .due("ticks(1)", 2)
            .due("wait(0)", -2)
            .due("come(1, 0)", 0)
            .due("wait(1)", -2)
            .due("go(2)", 0)
            .due("wait(2)", -2)
            .dueEach("count(#)", 11, 4, 4, 0, 0, 0, 0);
    }

    private static void waitNever() {
        Calls.onNew("promise 15, one that never fits holds up who is behind it, not who is ahead")
            .due("ride(5, 2, 0, 0, 0)", 0)
            .due("group(2)", 0).due("group(4)", 1).due("group(1)", 2)
            .due("stand(0, 0)", 0).due("stand(1, 0)", 1).due("stand(2, 0)", 2)
            .dueEach("wait(#)", 0, 1, 2, 2)
            .due("part(0, 1, 0)", 1)
            .dueEach("wait(#)", 0, 1, 2, 3)
            .due("part(0, 2, 0)", 1)
            .dueEach("wait(#)", 0, 1, -3, -3)
            .due("part(0, 5, 0)", 1)
            .dueEach("wait(#)", 0, -3, -3, -3)
            .due("count(13)", 5)
            .due("leave(1)", 0)
            .due("part(0, 2, 0)", 1)
            .due("wait(2)", 1);
    }

    private static void groupsAreTold() {
        Calls.onNew("promise 17, groupOf")
            .due("ride(6, 2, 2, 0, 0)", 0)
            .due("group(3)", 0)
            .due("groupOf(0, 9)", -9).due("groupOf(0, -1)", -9)
            .due("groupOf(0, " + LEAST + ")", -9).due("groupOf(0, " + MOST + ")", -9)
            .due("groupOf(1, 0)", -1).due("groupOf(-1, 0)", -1).due("groupOf(1, 9)", -1)
            .due("count(11)", 3)
            .due("take(0, 0)", 1)
            .due("stand(0, 0)", 0)
            .dueEach("groupOf(0, #)", 0, 3, 1, 0, 0, 1, 0, 0, 0, 0)
            .due("ticks(2)", 3)
            .dueEach("groupOf(0, #)", 0, 3, 3, 0, -9, 1, 0, 1, 0, 0)
            .due("ticks(8)", 0)
            .dueEach("groupOf(0, #)", 0, 3, 0, -9, -9, 1, 0, 1, 0, 0)
            .due("come(0, 0)", 0)
            .dueEach("groupOf(0, #)", 0, 3, 2, 0, 0, 0, 0, 1, 0, 0)
            .due("ticks(2)", 3)
            .due("groupOf(0, 6)", 2);
    }

    private static void rowsAreTold() {
        Calls.onNew("promise 21, row")
            .due("ride(6, 2, 2, 0, 0)", 0)
            .due("group(1)", 0).due("group(1)", 1).due("group(1)", 2).due("group(1)", 3)
            .due("take(0, 0)", 1).due("take(2, 0)", 1)
            .due("ticks(10)", 0)
            .due("stand(3, 0)", 0).due("stand(1, 0)", 1)
            .due("come(2, 0)", 0).due("come(0, 0)", 1)
            .dueEach("row(0, false, #)", -1, -9, 3, 1, -9)
            .dueEach("row(0, true, #)", -1, -9, 2, 0, -9)
            .due("row(0, true, " + LEAST + ")", -9).due("row(0, false, " + MOST + ")", -9)
            .due("row(0, false, 60)", -9)
            .due("row(1, true, 0)", -1).due("row(-1, false, 0)", -1).due("row(1, false, -1)", -1)
            .due("count(11)", 3);
    }
}
