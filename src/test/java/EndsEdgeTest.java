/** Promises 8, 10, 11 and 14 at the edges of a WINDOW's time: COMING BACK, TIMES that are MISSED, moved, or become ANYS. */
public final class EndsEdgeTest {
    public static void main(String[] args) {
        comeAtTheFirstTick();
        comeAtTheLastTick();
        comeAtTheRideOfTheTime();
        comeWithTheFirstOrTheSecondTime();
        comeWithAnys();
        comeWithATimeAndAnAny();
        goWithAnys();
        leaveGivesNothingBack();
        missedOneTickBehindTheLast();
        missedByRidesThatRun();
        usedTimesAreNotMissed();
        timesOfOtherWindowsStay();
        timesEndWhateverTheGroupDoes();
        movedToTheOneThatBeginsNow();
        movedUpToRoom();
        movedPastTheSeatsOfOthers();
        movedToTheLastOfForty();
        notMovedBehindTheForty();
        movedAtTheLastTick();
        movedByRainOrByAStop();
        movedOfAShow();
        anysAddUp();
        goneGroupsHaveNothingToMove();
        Calls.finish();
    }

    private static void comeAtTheFirstTick() {
        Calls.onNew("COMING BACK: a TIME in whose WINDOW TICK is, from its first TICK on")
            .due("ride(8, 2, 2, 0, 0)", 0)
            .groups(0, 1, 1)
            .due("take(0, 0)", 1)
            .due("come(0, 0)", -3)
            .due("ticks(9)", 0).due("come(0, 0)", -3)
            .due("ticks(1)", 0).due("come(0, 0)", 0)
            .due("groupOf(0, 4)", 0);
    }

    private static void comeAtTheLastTick() {
        Calls.onNew("COMING BACK: a TIME in whose WINDOW TICK is, up to its last TICK")
            .due("ride(8, 2, 2, 0, 0)", 0)
            .groups(0, 2, 1)
            .due("take(0, 0)", 1).due("take(1, 0)", 1)
            .due("ticks(19)", 0).due("come(0, 0)", 0)
            .due("ticks(1)", 1).due("come(1, 0)", -3)
            .dueEach("groupOf(#, 4)", 0, 0, 0);
    }

    private static void comeAtTheRideOfTheTime() {
        Calls.onNew("COMING BACK: a TIME there, not at another RIDE")
            .due("ride(8, 2, 2, 0, 0)", 0).due("ride(8, 2, 2, 0, 0)", 1)
            .groups(0, 1, 1)
            .due("take(0, 1)", 1)
            .due("ticks(10)", 0)
            .due("come(0, 0)", -3)
            .due("groupOf(0, 4)", 1)
            .due("come(0, 1)", 0)
            .due("groupOf(0, 2)", 1);
    }

    private static void comeWithTheFirstOrTheSecondTime() {
        Calls.onNew("COMING BACK: the TIME that is used is the second one, the first stays and is then the only one")
            .due("ride(8, 20, 2, 0, 0)", 0).due("ride(8, 1, 2, 0, 0)", 1)
            .groups(0, 1, 2)
            .due("take(0, 0)", 1).due("take(0, 1)", 1)
            .due("ticks(5)", 0)
            .due("come(0, 0)", -3)
            .due("come(0, 1)", 0)
            .due("groupOf(0, 4)", 1)
            .due("time(0, 0, 0)", 0).due("time(0, 0, 1)", 1).due("time(0, 1, 0)", -1)
            .due("leave(0)", 1)
            .due("ticks(95)", 0)
            .due("come(0, 0)", 0);
        Calls.onNew("COMING BACK: the TIME that is used is the first one, the second stays and is then the only one")
            .due("ride(8, 20, 2, 0, 0)", 0).due("ride(8, 1, 2, 0, 0)", 1)
            .groups(0, 1, 2)
            .due("take(0, 1)", 1).due("take(0, 0)", 1)
            .due("ticks(5)", 0)
            .due("come(0, 1)", 0)
            .due("time(0, 0, 0)", 0).due("time(0, 1, 0)", -1)
            .due("leave(0)", 1)
            .due("ticks(95)", 0)
            .due("come(0, 0)", 0);
    }

    /** TICK 20; group 0, of two, walks with two anys and no times; ride 0 runs, with a room of 10. */
    private static Calls withTwoAnys(String title) {
        return Calls.onNew(title)
            .due("ride(8, 1, 2, 0, 0)", 0)
            .groups(0, 1, 2)
            .due("take(0, 0)", 1).due("take(0, 0)", 2)
            .due("stop(0, true)", 1)
            .due("ticks(9)", 0)
            .due("part(0, 0, 0)", 1)
            .due("ticks(1)", 0)
            .dueEach("groupOf(0, #)", 4, 1, 1, 0, 0, 0)
            .due("give(0, 0)", 2)
            .due("part(0, 2, 0)", 1)
            .due("take(0, 0)", 3)
            .due("ticks(9)", 0)
            .due("part(0, 0, 0)", 1)
            .due("ticks(1)", 0)
            .dueEach("groupOf(0, #)", 4, 0, 2, 0, 0, 0)
            .due("part(0, 2, 0)", 1)
            .due("stop(0, false)", 1);
    }

    private static void comeWithAnys() {
        withTwoAnys("COMING BACK: else, if it has an ANY, that is used; with none left it is refused")
            .due("ride(8, 1, 2, 0, 0)", 1)
            .due("come(0, 1)", 0).due("groupOf(0, 5)", 1)
            .due("leave(0)", 1).due("groupOf(0, 5)", 1)
            .due("come(0, 0)", 0).due("groupOf(0, 5)", 0)
            .due("leave(0)", 0)
            .due("come(0, 0)", -3).due("come(0, 1)", -3)
            .due("groupOf(0, 5)", 0);
    }

    private static void goWithAnys() {
        withTwoAnys("promise 11: TIMES alone are given back and counted, ANYS are not among them")
            .due("take(0, 0)", 5)
            .due("go(0)", 1)
            .dueEach("groupOf(0, #)", 4, 0, 2, 0, 0, 0)
            .due("come(0, 0)", -2);
    }

    private static void comeWithATimeAndAnAny() {
        withTwoAnys("COMING BACK: an ANY ahead of the WINDOW of its TIME, the TIME in it")
            .due("take(0, 0)", 5)
            .due("ticks(4)", 0)
            .due("come(0, 0)", 0).due("groupOf(0, 4)", 1).due("groupOf(0, 5)", 1)
            .due("leave(0)", 0)
            .due("ticks(1)", 0)
            .due("come(0, 0)", 0).due("groupOf(0, 4)", 0).due("groupOf(0, 5)", 1)
            .due("window(0, 5, 0)", 2);
    }

    private static void leaveGivesNothingBack() {
        Calls.onNew("LEAVING a row: what was used stays so, of a row of one and of the middle of three")
            .due("ride(8, 20, 2, 0, 0)", 0)
            .groups(0, 3, 1)
            .dueEach("take(#, 0)", 0, 1, 1, 1)
            .due("ticks(100)", 0)
            .due("come(0, 0)", 0).due("leave(0)", 0)
            .due("row(0, true, 0)", -9).due("groupOf(0, 4)", 0).due("window(0, 1, 0)", 3)
            .due("come(0, 0)", -3)
            .due("leave(0)", -2)
            .due("come(1, 0)", 0).due("come(2, 0)", 1)
            .due("leave(1)", 0)
            .due("row(0, true, 0)", 2).due("groupOf(2, 3)", 0)
            .due("stand(1, 0)", 0).due("leave(1)", 0).due("leave(1)", -2);
    }

    private static void missedOneTickBehindTheLast() {
        Calls.onNew("a WINDOW ended at the TICK ahead of this one: the TIME is MISSED, GIVEN stays")
            .due("ride(8, 20, 2, 0, 0)", 0)
            .groups(0, 1, 3)
            .due("take(0, 0)", 1)
            .due("ticks(100)", 0).dueEach("groupOf(0, #)", 4, 1, 0, 0, 0, 0)
            .due("ticks(99)", 0).dueEach("groupOf(0, #)", 4, 1, 0, 0, 0, 0)
            .due("ticks(1)", 0).dueEach("groupOf(0, #)", 4, 0, 0, 0, 1, 0)
            .due("window(0, 1, 0)", 3)
            .due("ticks(200)", 0).dueEach("groupOf(0, #)", 4, 0, 0, 0, 1, 0);
    }

    private static void missedByRidesThatRun() {
        Calls.onNew("MISSED if the RIDE RUNS now, even if it was STOPPED for all of the WINDOW")
            .due("ride(8, 1, 2, 0, 0)", 0)
            .groups(0, 2, 3)
            .due("take(0, 0)", 1)
            .due("stop(0, true)", 1)
            .due("ticks(9)", 0)
            .due("stop(0, false)", 1)
            .due("ticks(1)", 0)
            .dueEach("groupOf(0, #)", 4, 0, 0, 0, 1, 0)
            .due("take(1, 0)", 3)
            .due("ticks(9)", 0)
            .due("stop(0, true)", 1)
            .due("ticks(1)", 0)
            .dueEach("groupOf(1, #)", 4, 1, 0, 0, 0, 1)
            .due("time(1, 0, 1)", 4);
    }

    private static void usedTimesAreNotMissed() {
        Calls.onNew("a TIME that was used is not MISSED and not moved, though its GROUP is still BACK")
            .due("ride(2, 1, 2, 0, 0)", 0)
            .groups(0, 2, 3)
            .due("take(0, 0)", 1).due("take(1, 0)", 1)
            .due("ticks(5)", 0)
            .due("come(0, 0)", 0).due("come(1, 0)", 1)
            .due("ticks(5)", 0)
            .dueEach("groupOf(0, #)", 1, 2, 0, 0, 0, 0, 0, 0, 0)
            .due("stop(0, true)", 1)
            .due("ticks(5)", 0)
            .dueEach("groupOf(1, #)", 1, 2, 0, 1, 0, 0, 0, 0, 0)
            .due("window(0, 1, 0)", 6);
    }

    private static void timesOfOtherWindowsStay() {
        Calls.onNew("TIMES of the WINDOW that ended, of that RIDE alone")
            .due("ride(8, 1, 2, 0, 0)", 0).due("ride(8, 1, 2, 0, 0)", 1)
            .groups(0, 3, 1)
            .due("take(0, 0)", 1).due("take(0, 0)", 2).due("take(1, 1)", 1).due("take(2, 0)", 1)
            .due("stop(0, true)", 1)
            .due("ticks(9)", 0)
            .due("go(2)", 1)
            .due("ticks(1)", 0)
            .dueEach("time(0, #, 1)", 0, 2, 2)
            .dueEach("groupOf(#, 8)", 0, 1, 0, 0)
            .dueEach("groupOf(#, 7)", 0, 0, 1, 0)
            .due("window(0, 2, 0)", 2).due("window(1, 1, 0)", 1);
    }

    private static void timesEndWhateverTheGroupDoes() {
        Calls.onNew("each GROUP with a TIME in it, whatever it does: WALKING, STANDING, BACK, ON")
            .due("ride(8, 1, 8, 0, 0)", 0).due("ride(8, 20, 2, 0, 0)", 1)
            .groups(0, 4, 1)
            .due("take(2, 1)", 1)
            .due("ticks(91)", 0)
            .due("stand(3, 1)", 0)
            .due("ticks(9)", 1)
            .due("come(2, 1)", 0).due("stand(1, 1)", 0)
            .due("ticks(4)", 0)
            .dueEach("take(#, 0)", 0, 21, 21, 21, 21)
            .due("stop(0, true)", 1)
            .due("ticks(6)", 0)
            .dueEach("groupOf(#, 1)", 0, 0, 1, 2, 3)
            .dueEach("groupOf(#, 8)", 0, 1, 1, 1, 1)
            .dueEach("time(#, 0, 1)", 0, 22, 22, 22, 22)
            .due("ticks(4)", 0)
            .due("stop(0, false)", 1)
            .due("ticks(1)", 0)
            .dueEach("groupOf(#, 1)", 0, 0, 1, 2, 3)
            .dueEach("groupOf(#, 7)", 0, 1, 1, 1, 1)
            .dueEach("groupOf(#, 4)", 0, 0, 0, 0, 0);
    }

    private static void movedToTheOneThatBeginsNow() {
        Calls.onNew("moved to the first WINDOW with room, from the one on that begins now; it can be used at once")
            .due("ride(8, 1, 2, 0, 0)", 0)
            .groups(0, 1, 2)
            .due("take(0, 0)", 1)
            .due("stop(0, true)", 1)
            .due("ticks(10)", 0)
            .due("rideOf(0, 11)", 2).due("time(0, 0, 1)", 2)
            .dueEach("window(0, #, 0)", 1, 0, 2, 0)
            .due("come(0, 0)", 0)
            .due("window(0, 2, 0)", 2)
            .dueEach("groupOf(0, #)", 4, 0, 0, 0, 0, 1);
    }

    private static void movedUpToRoom() {
        Calls.onNew("moved to the first WINDOW with room for it: GIVEN and the GROUP are not above ROOM (5)")
            .due("ride(8, 1, 1, 0, 0)", 0)
            .due("group(2)", 0).due("group(3)", 1).due("group(3)", 2).due("group(1)", 3)
            .due("take(0, 0)", 1).due("take(2, 0)", 1).due("take(1, 0)", 2)
            .due("stop(0, true)", 1)
            .due("ticks(10)", 0)
            .due("time(0, 0, 1)", 2).due("time(2, 0, 1)", 3)
            .dueEach("window(0, #, 0)", 1, 0, 5, 3, 0)
            .due("take(3, 0)", 3)
            .dueEach("groupOf(#, 8)", 0, 1, 0, 1, 0);
    }

    private static void movedPastTheSeatsOfOthers() {
        Calls.onNew("moved into ROOM of now, not into that of the time when it was taken")
            .due("ride(8, 1, 2, 0, 0)", 0)
            .due("group(5)", 0).due("group(5)", 1)
            .due("take(0, 0)", 1).due("take(1, 0)", 1)
            .due("part(0, 1, 0)", 1)
            .due("stop(0, true)", 1)
            .due("ticks(10)", 0)
            .due("time(0, 0, 1)", 2).due("time(1, 0, 1)", 3)
            .dueEach("window(0, #, 0)", 1, 0, 5, 5)
            .due("part(0, 1, 1)", 1)
            .due("ticks(5)", 0)
            .dueEach("groupOf(0, #)", 4, 0, 1, 0, 0, 1)
            .dueEach("window(0, #, 0)", 1, 0, 0, 5);
    }

    private static void movedToTheLastOfForty() {
        Scenes.withFortyFullWindows("of the 40 behind: the last one is the 40th behind the one that ended")
            .due("stop(0, true)", 1)
            .due("ticks(5)", 0)
            .due("ticks(4)", 0)
            .due("time(0, 0, 1)", 1)
            .due("ticks(1)", 0)
            .due("time(0, 0, 1)", 41)
            .dueEach("groupOf(0, #)", 4, 2, 0, 0, 0, 1)
            .dueEach("window(0, #, 0)", 40, 1, 1, 0)
            .due("window(0, 1, 0)", 0);
    }

    private static void notMovedBehindTheForty() {
        Scenes.withFortyFullWindows("of the 40 behind: without room in them it goes, and the GROUP has an ANY more")
            .due("stop(0, true)", 1)
            .due("ticks(5)", 0)
            .due("take(20, 0)", 41)
            .due("ticks(5)", 0)
            .dueEach("groupOf(0, #)", 4, 1, 1, 0, 0, 0)
            .due("time(0, 0, 1)", 2)
            .dueEach("window(0, #, 0)", 40, 1, 1, 0)
            .due("window(0, 1, 0)", 0);
    }

    private static void movedAtTheLastTick() {
        Calls.onNew("a WINDOW that ended at TICK 4999 (and one that does not end any more)")
            .due("ride(1, 1, 1, 4, 0)", 0).due("ride(1, 3, 1, 4, 0)", 1)
            .groups(0, 2, 1)
            .due("ticks(4990)", 0)
            .due("take(0, 0)", 999).due("take(1, 1)", 333)
            .due("stop(0, true)", 1).due("stop(1, true)", 1)
            .due("ticks(9)", 0)
            .due("time(0, 0, 1)", 999)
            .due("ticks(1)", 0)
            .due("time(0, 0, 1)", 1000).due("time(1, 0, 1)", 333)
            .due("window(0, 999, 0)", 0).due("window(0, 1000, 0)", 1)
            .due("come(0, 0)", 0).due("come(1, 1)", 0);
    }

    private static void movedByRainOrByAStop() {
        Calls.onNew("if the RIDE does not RUN now (a WET one: or it rains)")
            .due("ride(8, 1, 2, 0, 3)", 0).due("ride(8, 1, 2, 0, 2)", 1)
            .due("ride(8, 1, 2, 0, 1)", 2).due("ride(8, 1, 2, 0, 0)", 3)
            .groups(0, 4, 1)
            .due("take(0, 0)", 1).due("take(2, 2)", 1).due("take(3, 3)", 1)
            .due("ticks(9)", 0)
            .due("rain(true)", 1)
            .due("ticks(1)", 0)
            .dueEach("groupOf(#, 8)", 0, 1, 0, 0, 0)
            .dueEach("groupOf(#, 7)", 0, 0, 0, 1, 1)
            .due("ticks(4)", 0)
            .due("rain(false)", 1).due("stop(0, true)", 1)
            .due("ticks(1)", 0)
            .due("groupOf(0, 8)", 2)
            .due("ticks(4)", 0)
            .due("stop(0, false)", 1)
            .due("ticks(1)", 0)
            .dueEach("groupOf(0, #)", 4, 0, 0, 0, 1, 2);
    }

    private static void movedOfAShow() {
        Calls.onNew("a WINDOW of a SHOW ends behind 15 ROUNDS")
            .due("ride(8, 1, 1, 0, 2)", 0)
            .due("group(5)", 0).due("group(5)", 1)
            .due("take(0, 0)", 1).due("take(1, 0)", 2)
            .due("stop(0, true)", 1)
            .due("ticks(29)", 0)
            .due("groupOf(0, 8)", 0)
            .due("ticks(1)", 0)
            .due("groupOf(0, 8)", 1).due("time(0, 0, 1)", 3)
            .due("stop(0, false)", 1)
            .due("ticks(14)", 0)
            .due("groupOf(1, 7)", 0)
            .due("ticks(1)", 0)
            .due("groupOf(1, 7)", 1).due("groupOf(0, 7)", 0);
    }

    private static void anysAddUp() {
        Calls calls = Calls.onNew("ANYS: how many, also above two")
            .due("ride(8, 1, 1, 0, 0)", 0)
            .groups(0, 1, 1)
            .due("stop(0, true)", 1);
        for (int i = 0; i < 5; i++) {
            calls.due("part(0, 1, 0)", 1)
                .due("take(0, 0)", 2 * i + 1)
                .due("part(0, 0, 0)", 1)
                .due("ticks(10)", 0)
                .dueEach("groupOf(0, #)", 4, 0, i + 1, 0, 0, 0);
        }
        for (int i = 4; i >= 0; i--) {
            calls.due("come(0, 0)", 0).due("groupOf(0, 5)", i).due("leave(0)", 0);
        }
        calls.due("come(0, 0)", -3);
    }

    private static void goneGroupsHaveNothingToMove() {
        Calls.onNew("a GONE GROUP has no TIME that could be MISSED or moved")
            .due("ride(8, 1, 2, 0, 0)", 0)
            .groups(0, 2, 2)
            .due("take(0, 0)", 1).due("take(0, 0)", 2).due("take(1, 0)", 1)
            .due("stop(0, true)", 1)
            .due("go(0)", 2)
            .due("ticks(10)", 0)
            .dueEach("groupOf(0, #)", 4, 0, 0, 0, 0, 0)
            .dueEach("window(0, #, 0)", 1, 0, 2, 0)
            .due("stop(0, false)", 1)
            .due("ticks(5)", 0)
            .due("groupOf(0, 7)", 0).due("groupOf(1, 7)", 1);
    }
}
