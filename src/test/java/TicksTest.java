/** Promises 12 to 14, 19, 22: stop, rain, ticks, rideOf, count. */
public final class TicksTest {
    private static final int LEAST = Integer.MIN_VALUE;
    private static final int MOST = Integer.MAX_VALUE;

    public static void main(String[] args) {
        stops();
        stopLetsTheRoundEnd();
        rains();
        ticksAreRefused();
        roundsBeginAndEnd();
        roundsOfAShow();
        roundsOfAWetRide();
        backFillsThePart();
        standingFillsTheSeats();
        backFillsWhatIsLeft();
        singlesFillEmptySeats();
        onlySinglesAreFilledSo();
        missedTimes();
        movedTimes();
        movedByNumbersOfGroups();
        movedAmongFortyWindows();
        movedWithoutLookingAtOverlaps();
        movedByRain();
        movedKeepsItsPlace();
        timesBecomeAnys();
        bothTimesOfOneWindow();
        ridesAreTold();
        counts();
        Calls.finish();
    }

    private static void stops() {
        Calls.onNew("promise 12, stop")
            .due("ride(2, 1, 0, 0, 0)", 0)
            .due("ride(2, 1, 0, 0, 0)", 1)
            .due("group(2)", 0)
            .due("stop(0, false)", 0)
            .due("stop(0, true)", 1)
            .due("stop(0, true)", 0)
            .due("rideOf(0, 5)", 0).due("rideOf(1, 5)", 1)
            .due("stand(0, 0)", 0)
            .due("ticks(3)", 0)
            .due("rideOf(0, 12)", 0).due("rideOf(1, 12)", 3)
            .due("stop(0, false)", 1)
            .due("rideOf(0, 5)", 1)
            .due("ticks(1)", 2)
            .due("stop(2, true)", 0).due("stop(-1, true)", 0).due("stop(2, false)", 0)
            .due("stop(" + LEAST + ", true)", 0).due("stop(" + MOST + ", true)", 0)
            .dueEach("count(#)", 11, 0, 0, 0, 0, 0, 0);
    }

    private static void stopLetsTheRoundEnd() {
        Calls.onNew("promise 12, who is on stays on till the round is over")
            .due("ride(2, 3, 0, 0, 0)", 0)
            .due("group(2)", 0).due("group(1)", 1)
            .due("stand(0, 0)", 0).due("stand(1, 0)", 1)
            .due("ticks(3)", 2)
            .due("stop(0, true)", 1)
            .due("ticks(2)", 0)
            .due("groupOf(0, 1)", 3).due("rideOf(0, 8)", 2)
            .due("ticks(1)", 0)
            .due("groupOf(0, 1)", 0).due("rideOf(0, 8)", 0)
            .due("groupOf(1, 1)", 1).due("rideOf(0, 12)", 1);
    }

    private static void rains() {
        Calls.onNew("promise 13, rain")
            .due("rain(false)", 0)
            .due("rain(true)", 1)
            .due("rain(true)", 0)
            .due("rain(false)", 1)
            .due("rain(false)", 0);
    }

    private static void ticksAreRefused() {
        Calls.onNew("promise 14, refusals of ticks")
            .due("ticks(0)", -4).due("ticks(-1)", -4).due("ticks(" + LEAST + ")", -4)
            .due("ticks(5001)", -6).due("ticks(" + MOST + ")", -6)
            .due("count(0)", 0)
            .due("ticks(4999)", 0)
            .due("ticks(2)", -6)
            .due("ticks(" + MOST + ")", -6)
            .due("ticks(1)", 0)
            .due("count(0)", 5000)
            .due("ticks(1)", -6)
            .due("ticks(0)", -4)
            .dueEach("count(#)", 11, 0, 0, 0, 4, 0, 5);
    }

    private static void roundsBeginAndEnd() {
        Calls.onNew("promise 14, rounds begin at multiples of their length")
            .due("ride(4, 3, 0, 0, 0)", 0)
            .due("group(2)", 0).due("group(2)", 1).due("group(1)", 2)
            .due("stand(0, 0)", 0).due("stand(1, 0)", 1).due("stand(2, 0)", 2)
            .due("ticks(2)", 0)
            .due("ticks(1)", 4)
            .dueEach("groupOf(#, 1)", 0, 3, 3, 1)
            .due("ticks(2)", 0)
            .dueEach("groupOf(#, 1)", 0, 3, 3, 1)
            .due("ticks(1)", 1)
            .dueEach("groupOf(#, 1)", 0, 0, 0, 3)
            .dueEach("rideOf(0, #)", 8, 1, 5, 3, 0, 2)
            .due("ticks(6)", 0)
            .dueEach("rideOf(0, #)", 8, 0, 5, 11, 0, 4);
        Calls.onNew("promise 14, a ride that is made late keeps the same ticks")
            .due("ticks(4)", 0)
            .due("ride(4, 3, 0, 0, 0)", 0)
            .due("group(2)", 0)
            .due("stand(0, 0)", 0)
            .due("ticks(1)", 0)
            .due("ticks(1)", 2)
            .due("stand(0, 0)", -2)
            .due("ticks(3)", 0)
            .due("stand(0, 0)", 0)
            .due("ticks(3)", 2);
    }

    private static void roundsOfAShow() {
        Calls.onNew("promise 14, a show begins at multiples of three rounds, and is on for one")
            .due("ride(4, 2, 0, 0, 2)", 0)
            .due("group(2)", 0)
            .due("stand(0, 0)", 0)
            .due("ticks(5)", 0)
            .due("ticks(1)", 2)
            .due("ticks(1)", 0)
            .due("groupOf(0, 1)", 3)
            .due("ticks(1)", 0)
            .due("groupOf(0, 1)", 0)
            .due("stand(0, 0)", 0)
            .due("ticks(3)", 0)
            .due("ticks(1)", 2)
            .due("rideOf(0, 12)", 2);
    }

    private static void roundsOfAWetRide() {
        Calls.onNew("promise 14, only a wet ride is still while it rains")
            .due("ride(4, 2, 0, 0, 3)", 0)
            .due("ride(4, 2, 0, 0, 0)", 1)
            .due("ride(4, 2, 0, 0, 1)", 2)
            .due("ride(4, 2, 0, 0, 2)", 3)
            .due("group(1)", 0).due("group(2)", 1).due("group(3)", 2).due("group(4)", 3)
            .due("stand(0, 0)", 0).due("stand(1, 1)", 0).due("stand(2, 2)", 0).due("stand(3, 3)", 0)
            .due("rain(true)", 1)
            .dueEach("rideOf(#, 5)", 0, 0, 1, 1, 1)
            .due("ticks(6)", 9)
            .dueEach("rideOf(#, 12)", 0, 0, 3, 3, 1)
            .due("rain(false)", 1)
            .dueEach("rideOf(#, 5)", 0, 1, 1, 1, 1)
            .due("ticks(2)", 1)
            .due("stop(0, true)", 1)
            .due("rain(true)", 1)
            .due("rain(false)", 1)
            .due("rideOf(0, 5)", 0)
            .due("rain(true)", 1)
            .due("stop(0, false)", 1)
            .due("rideOf(0, 5)", 0)
            .due("ticks(2)", 0)
            .due("rideOf(0, 12)", 1);
    }

    private static void backFillsThePart() {
        Scenes.withBack("promise 14, (1) those back, in order, as long as the next one fits into the part",
                "ride(8, 1, 4, 0, 0)", 2, 3, 1)
            .due("group(4)", 3).due("group(3)", 4)
            .due("stand(3, 0)", 0).due("stand(4, 0)", 1)
            .due("ticks(1)", 6)
            .dueEach("groupOf(#, 1)", 0, 3, 2, 2, 3, 1)
            .due("row(0, true, 0)", 1)
            .due("row(0, false, 0)", 4)
            .due("rideOf(0, 10)", 5 * 8 + 2)
            .due("ticks(1)", 7)
            .dueEach("groupOf(#, 1)", 0, 0, 3, 3, 0, 3);
    }

    private static void standingFillsTheSeats() {
        Scenes.withBack("promise 14, (2) those who stand take what is left of the seats, of the part, too",
                "ride(8, 1, 4, 0, 0)", 1)
            .due("group(4)", 1).due("group(3)", 2).due("group(1)", 3)
            .due("stand(1, 0)", 0).due("stand(2, 0)", 1).due("stand(3, 0)", 2)
            .due("ticks(1)", 8)
            .dueEach("groupOf(#, 1)", 0, 3, 3, 3, 1)
            .due("ticks(1)", 1);
    }

    private static void backFillsWhatIsLeft() {
        Scenes.withBack("promise 14, (3) those back take what is left, as long as the next one fits",
                "ride(8, 1, 2, 0, 0)", 3, 1, 5, 1)
            .due("group(2)", 4)
            .due("stand(4, 0)", 0)
            .due("ticks(1)", 6)
            .dueEach("groupOf(#, 1)", 0, 3, 3, 2, 2, 3)
            .due("ticks(1)", 6)
            .due("rideOf(0, 7)", 0);
    }

    private static void singlesFillEmptySeats() {
        Calls.onNew("promise 14, (4) groups of one fill what is left, wherever they stand")
            .due("ride(5, 1, 0, 0, 1)", 0)
            .due("group(4)", 0).due("group(3)", 1).due("group(1)", 2).due("group(2)", 3)
            .due("group(1)", 4).due("group(1)", 5)
            .due("stand(0, 0)", 0).due("stand(1, 0)", 1).due("stand(2, 0)", 2).due("stand(3, 0)", 3)
            .due("stand(4, 0)", 4).due("stand(5, 0)", 5)
            .due("ticks(1)", 5)
            .dueEach("groupOf(#, 1)", 0, 3, 1, 3, 1, 1, 1)
            .dueEach("row(0, false, #)", 0, 1, 3, 4, 5, -9)
            .due("leave(3)", 0)
            .due("stand(3, 0)", 3)
            .due("part(0, 2, 0)", 1)
            .due("ticks(1)", 5)
            .dueEach("groupOf(#, 1)", 0, 0, 3, 0, 1, 3, 3);
    }

    private static void onlySinglesAreFilledSo() {
        Calls.onNew("promise 14, (4) is of a single alone, and not from those back")
            .due("ride(5, 1, 0, 0, 0)", 0)
            .due("group(4)", 0).due("group(3)", 1).due("group(1)", 2)
            .due("stand(0, 0)", 0).due("stand(1, 0)", 1).due("stand(2, 0)", 2)
            .due("ticks(1)", 4)
            .due("ticks(1)", 4);
        Scenes.withBack("promise 14, (4) groups of one that are back behind a greater one wait",
                "ride(4, 1, 2, 0, 1)", 3, 4, 1)
            .due("ticks(1)", 3)
            .dueEach("groupOf(#, 1)", 0, 3, 2, 2);
    }

    private static void missedTimes() {
        Calls.onNew("promise 14, a time that was not used is missed; given stays")
            .due("ride(6, 1, 2, 0, 0)", 0)
            .due("ride(6, 2, 2, 0, 0)", 1)
            .due("group(2)", 0)
            .due("take(0, 0)", 1).due("take(0, 1)", 1)
            .due("ticks(9)", 0)
            .dueEach("groupOf(0, #)", 4, 2, 0, 0, 0, 0)
            .due("ticks(1)", 0)
            .dueEach("groupOf(0, #)", 4, 1, 0, 0, 1, 0)
            .due("time(0, 0, 0)", 1)
            .due("window(0, 1, 0)", 2)
            .due("ticks(9)", 0)
            .due("groupOf(0, 7)", 1)
            .due("ticks(1)", 0)
            .dueEach("groupOf(0, #)", 4, 0, 0, 0, 2, 0)
            .due("window(1, 1, 0)", 2);
    }

    private static void movedTimes() {
        Calls.onNew("promise 14, a time of a ride that does not run is moved into the window that begins")
            .due("ride(6, 1, 1, 0, 0)", 0)
            .due("group(2)", 0).due("group(4)", 1)
            .due("take(0, 0)", 1).due("take(1, 0)", 2)
            .due("stop(0, true)", 1)
            .due("ticks(10)", 0)
            .dueEach("groupOf(0, #)", 4, 1, 0, 0, 0, 1)
            .due("time(0, 0, 1)", 3)
            .dueEach("window(0, #, 0)", 1, 0, 4, 2)
            .due("give(1, 0)", 2)
            .due("ticks(5)", 0)
            .due("groupOf(0, 8)", 1)
            .due("ticks(4)", 0)
            .due("stop(0, false)", 1)
            .due("ticks(1)", 0)
            .dueEach("groupOf(0, #)", 4, 0, 0, 0, 1, 1)
            .due("window(0, 3, 0)", 2);
        Calls.onNew("promise 14, a ride that runs again at the end of the window moves nothing")
            .due("ride(6, 1, 1, 0, 0)", 0)
            .due("group(2)", 0)
            .due("take(0, 0)", 1)
            .due("stop(0, true)", 1)
            .due("ticks(9)", 0)
            .due("stop(0, false)", 1)
            .due("ticks(1)", 0)
            .dueEach("groupOf(0, #)", 4, 0, 0, 0, 1, 0);
    }

    private static void movedByNumbersOfGroups() {
        Calls.onNew("promise 14, groups are moved by numbers, not as they took")
            .due("ride(6, 1, 2, 0, 0)", 0)
            .due("group(4)", 0).due("group(4)", 1).due("group(2)", 2)
            .due("take(2, 0)", 1).due("take(1, 0)", 1).due("take(0, 0)", 1)
            .due("part(0, 1, 0)", 1)
            .due("stop(0, true)", 1)
            .due("ticks(10)", 0)
            .dueEach("time(#, 0, 1)", 0, 2, 3, 4)
            .dueEach("window(0, #, 0)", 1, 0, 4, 4, 2);
        Calls.onNew("promise 14, the place that a moved time leaves is free for a time of another window")
            .due("ride(6, 1, 1, 0, 0)", 0)
            .due("group(5)", 0).due("group(5)", 1)
            .due("take(0, 0)", 1).due("take(0, 0)", 2).due("take(1, 0)", 3)
            .due("stop(0, true)", 1)
            .due("ticks(10)", 0)
            .dueEach("time(0, #, 1)", 0, 4, 2)
            .due("ticks(5)", 0)
            .dueEach("time(0, #, 1)", 0, 4, 5)
            .due("groupOf(0, 8)", 2);
    }

    private static void movedAmongFortyWindows() {
        Scenes.withFortyFullWindows("promise 14, forty windows behind the one that ended, then an any")
            .due("ticks(5)", 0)
            .due("stop(0, true)", 1)
            .due("ticks(5)", 0)
            .due("time(0, 0, 1)", 41)
            .due("window(0, 1, 0)", 0)
            .due("take(20, 0)", 42)
            .due("ticks(5)", 0)
            .dueEach("groupOf(0, #)", 4, 1, 1, 0, 0, 1)
            .due("time(0, 0, 1)", 41)
            .due("window(0, 2, 0)", 0)
            .due("come(0, 0)", 0)
            .dueEach("groupOf(0, #)", 4, 1, 0);
    }

    private static void movedWithoutLookingAtOverlaps() {
        Calls.onNew("promise 14, overlaps are not looked at when a time is moved")
            .due("ride(6, 1, 2, 0, 0)", 0)
            .due("ride(6, 1, 2, 0, 0)", 1)
            .due("group(2)", 0)
            .due("take(0, 0)", 1).due("take(0, 1)", 2)
            .due("stop(0, true)", 1)
            .due("ticks(10)", 0)
            .due("time(0, 0, 0)", 0).due("time(0, 0, 1)", 2)
            .due("time(0, 1, 0)", 1).due("time(0, 1, 1)", 2);
    }

    private static void movedByRain() {
        Calls.onNew("promise 14, rain moves the times of a wet ride alone")
            .due("ride(6, 1, 2, 0, 3)", 0)
            .due("ride(6, 1, 2, 0, 0)", 1)
            .due("group(2)", 0).due("group(2)", 1)
            .due("take(0, 0)", 1).due("take(1, 1)", 1)
            .due("ticks(9)", 0)
            .due("rain(true)", 1)
            .due("ticks(1)", 0)
            .due("groupOf(0, 8)", 1).due("time(0, 0, 1)", 2)
            .due("groupOf(1, 7)", 1).due("groupOf(1, 4)", 0)
            .due("rain(false)", 1)
            .due("ticks(5)", 0)
            .due("groupOf(0, 7)", 1);
    }

    private static void movedKeepsItsPlace() {
        Calls.onNew("promise 14, a moved time keeps its place; both of one window are moved in their order")
            .due("ride(6, 1, 2, 0, 0)", 0)
            .due("group(5)", 0)
            .due("take(0, 0)", 1).due("take(0, 0)", 2)
            .due("stop(0, true)", 1)
            .due("ticks(10)", 0)
            .dueEach("time(0, #, 1)", 0, 2, 2)
            .due("part(0, 1, 0)", 1)
            .due("ticks(5)", 0)
            .dueEach("time(0, #, 1)", 0, 3, 4)
            .due("groupOf(0, 8)", 3)
            .dueEach("window(0, #, 0)", 2, 0, 5, 5);
    }

    private static void timesBecomeAnys() {
        Calls.onNew("promise 14, a time that finds no room becomes an any, and does not count as moved")
            .due("ride(6, 1, 2, 0, 0)", 0)
            .due("group(5)", 0).due("group(4)", 1)
            .due("take(0, 0)", 1).due("take(0, 0)", 2)
            .due("take(1, 0)", 1).due("take(1, 0)", 2)
            .due("stop(0, true)", 1)
            .due("ticks(10)", 0)
            .dueEach("time(0, #, 1)", 0, 3, 2)
            .dueEach("time(1, #, 1)", 0, 3, 2)
            .due("ticks(5)", 0)
            .dueEach("time(0, #, 1)", 0, 3, 4)
            .dueEach("time(1, #, 1)", 0, 3, 4)
            .due("give(0, 0)", 3).due("give(1, 1)", 4)
            .due("ticks(5)", 0)
            .due("time(0, 0, 1)", 4).due("time(1, 0, 1)", 4)
            .due("part(0, 0, 0)", 1)
            .due("ticks(5)", 0)
            .dueEach("groupOf(0, #)", 4, 0, 1, 0, 0, 2)
            .dueEach("groupOf(1, #)", 4, 0, 1, 0, 0, 3)
            .due("window(0, 4, 0)", 0);
    }

    /** TICK 10; both times of group 0, of two, are in window 2 of ride 0, which is stopped. */
    private static Calls withTwoTimesInOneWindow(String title) {
        return Calls.onNew(title)
            .due("ride(6, 1, 2, 0, 0)", 0)
            .due("group(2)", 0)
            .due("take(0, 0)", 1).due("take(0, 0)", 2)
            .due("stop(0, true)", 1)
            .due("ticks(10)", 0)
            .dueEach("time(0, #, 1)", 0, 2, 2)
            .due("window(0, 2, 0)", 4);
    }

    private static void bothTimesOfOneWindow() {
        withTwoTimesInOneWindow("promise 14, both times of one window are missed")
            .due("stop(0, false)", 1)
            .due("ticks(5)", 0)
            .dueEach("groupOf(0, #)", 4, 0, 0, 0, 2, 1)
            .due("window(0, 2, 0)", 4);
        withTwoTimesInOneWindow("promise 14, both times of one window become anys")
            .due("part(0, 0, 0)", 1)
            .due("ticks(5)", 0)
            .dueEach("groupOf(0, #)", 4, 0, 2, 0, 0, 1)
            .due("window(0, 2, 0)", 0);
    }

    private static void ridesAreTold() {
        Calls.onNew("promise 19, rideOf")
            .due("ride(6, 2, 3, 1, 0)", 0)
            .due("ride(5, 4, 1, 0, 0)", 1)
            .due("group(3)", 0).due("group(2)", 1).due("group(3)", 2)
            .due("take(2, 0)", 1)
            .due("stand(0, 0)", 0).due("stand(1, 0)", 1)
            .dueEach("rideOf(0, #)", 0, 6, 2, 3, 1, 0, 1, 2, 0, 0, 0, 0, 0, 0)
            .due("ticks(2)", 5)
            .dueEach("rideOf(0, #)", 0, 6, 2, 3, 1, 0, 1, 0, 0, 5, 5, 1, 0, 1)
            .due("ticks(9)", 0)
            .due("come(2, 0)", 0)
            .dueEach("rideOf(0, #)", 0, 6, 2, 3, 1, 0, 1, 0, 1, 0, 5, 25, 1, 5)
            .dueEach("rideOf(1, #)", 0, 5, 4, 1, 0, 0, 1, 0, 0, 0, 0, 10, 0, 2)
            .due("rideOf(0, 13)", -9).due("rideOf(0, -1)", -9)
            .due("rideOf(0, " + LEAST + ")", -9).due("rideOf(0, " + MOST + ")", -9)
            .due("rideOf(2, 0)", -1).due("rideOf(-1, 0)", -1).due("rideOf(2, 13)", -1)
            .due("count(11)", 3);
    }

    private static void counts() {
        Calls.onNew("promise 22, count")
            .due("ride(6, 2, 2, 0, 0)", 0)
            .due("group(1)", 0).due("group(2)", 1).due("group(3)", 2).due("group(4)", 3).due("group(5)", 4)
            .due("take(0, 0)", 1)
            .due("ticks(11)", 0)
            .due("stand(3, 0)", 0)
            .due("ticks(1)", 4)
            .due("come(0, 0)", 0)
            .due("stand(1, 0)", 0)
            .due("go(2)", 0)
            .dueEach("count(#)", 0, 12, 1, 5, 15, 4, 3, 3)
            .dueEach("count(#)", 7, -9, -9, -9, -9)
            .due("count(17)", -9).due("count(-1)", -9)
            .due("count(" + LEAST + ")", -9).due("count(" + MOST + ")", -9)
            .due("leave(9)", -1)
            .due("leave(2)", -2).due("leave(4)", -2)
            .due("come(4, 0)", -3).due("come(4, 0)", -3).due("come(4, 0)", -3)
            .due("group(0)", -4).due("group(0)", -4).due("group(0)", -4).due("group(0)", -4)
            .due("group(9)", -6).due("group(9)", -6).due("group(9)", -6).due("group(9)", -6).due("group(9)", -6)
            .dueEach("count(#)", 11, 1, 2, 3, 4, 0, 5);
    }
}
