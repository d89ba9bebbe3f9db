/** Promises 6 to 8, 11, 14 and 16 at the edges of WINDOWS: their first and last TICK, full and empty, the 40 behind, what ends and what is moved. */
public final class WindowsEdgeTest {
    public static void main(String[] args) {
        windowsAreFiveRoundsLong();
        windowsOfAShowAreFifteenRoundsLong();
        windowsAtTheLastTick();
        roomIsNotBelowZero();
        roomOfNothing();
        roomOfOne();
        givenUpToRoom();
        givenAboveRoom();
        givenBackIsRoomAgain();
        takenBehindTheWindowOfNow();
        noneOfFortyWindows();
        fortyWindowsThatOverlap();
        overlapAtTheEnd();
        overlapAtTheBeginning();
        overlapWithTheTimeBehindAnother();
        twoTimesAtMost();
        timesInTheOrderInWhichTheyCame();
        giveTheFirstOrTheSecond();
        goWithNoneOneOrTwo();
        Calls.finish();
    }

    private static void windowsAreFiveRoundsLong() {
        Calls.onNew("WINDOWS are 5 ROUNDS long, from TICK w times that, up to the next one's")
            .due("ride(1, 1, 0, 0, 0)", 0).due("ride(1, 20, 0, 0, 0)", 1)
            .dueEach("rideOf(#, 11)", 0, 0, 0)
            .due("ticks(4)", 0).dueEach("rideOf(#, 11)", 0, 0, 0)
            .due("ticks(1)", 0).dueEach("rideOf(#, 11)", 0, 1, 0)
            .due("ticks(4)", 0).dueEach("rideOf(#, 11)", 0, 1, 0)
            .due("ticks(1)", 0).dueEach("rideOf(#, 11)", 0, 2, 0)
            .due("ticks(89)", 0).dueEach("rideOf(#, 11)", 0, 19, 0)
            .due("ticks(1)", 0).dueEach("rideOf(#, 11)", 0, 20, 1)
            .due("ticks(99)", 0).dueEach("rideOf(#, 11)", 0, 39, 1)
            .due("ticks(1)", 0).dueEach("rideOf(#, 11)", 0, 40, 2);
    }

    private static void windowsOfAShowAreFifteenRoundsLong() {
        Calls.onNew("WINDOWS of a SHOW are 15 ROUNDS long")
            .due("ride(1, 1, 0, 0, 2)", 0).due("ride(1, 20, 0, 0, 2)", 1)
            .due("ticks(14)", 0).dueEach("rideOf(#, 11)", 0, 0, 0)
            .due("ticks(1)", 0).dueEach("rideOf(#, 11)", 0, 1, 0)
            .due("ticks(284)", 0).dueEach("rideOf(#, 11)", 0, 19, 0)
            .due("ticks(1)", 0).dueEach("rideOf(#, 11)", 0, 20, 1)
            .due("ticks(299)", 0).dueEach("rideOf(#, 11)", 0, 39, 1)
            .due("ticks(1)", 0).dueEach("rideOf(#, 11)", 0, 40, 2);
    }

    private static void windowsAtTheLastTick() {
        Calls.onNew("WINDOWS of TICK 5000, and TIMES in those behind it")
            .due("ride(8, 1, 8, 0, 0)", 0).due("ride(8, 20, 8, 0, 0)", 1)
            .due("ride(8, 1, 8, 0, 2)", 2).due("ride(8, 20, 8, 0, 2)", 3)
            .groups(0, 5, 8)
            .due("ticks(4999)", 0)
            .dueEach("rideOf(#, 11)", 0, 999, 49, 333, 16)
            .due("take(4, 0)", 1000)
            .due("ticks(1)", 0)
            .dueEach("rideOf(#, 11)", 0, 1000, 50, 333, 16)
            .due("take(0, 0)", 1001).due("take(1, 1)", 51).due("take(2, 2)", 334).due("take(3, 3)", 17)
            .due("window(0, 1001, 0)", 8).due("window(1, 51, 0)", 8)
            .due("window(2, 334, 0)", 8).due("window(3, 17, 0)", 8)
            .due("come(0, 0)", -3)
            .due("come(4, 0)", 0);
    }

    private static void roomIsNotBelowZero() {
        Calls.onNew("ROOM of a WINDOW: 5 times PART, less SPARE, not below 0")
            .due("ride(40, 1, 0, 0, 0)", 0)
            .due("window(0, 0, 1)", 0)
            .due("part(0, 0, 1)", 1).due("window(0, 0, 1)", 0)
            .due("part(0, 0, 99)", 1).due("window(0, 0, 1)", 0)
            .due("part(0, 1, 0)", 1).due("window(0, 0, 1)", 5)
            .due("part(0, 1, 4)", 1).due("window(0, 0, 1)", 1)
            .due("part(0, 1, 5)", 1).due("window(0, 0, 1)", 0)
            .due("part(0, 1, 6)", 1).due("window(0, 0, 1)", 0)
            .due("part(0, 19, 99)", 1).due("window(0, 0, 1)", 0)
            .due("part(0, 20, 99)", 1).due("window(0, 0, 1)", 1)
            .due("part(0, 40, 0)", 1).due("window(0, 0, 1)", 200)
            .due("part(0, 40, 99)", 1).due("window(0, 0, 1)", 101);
        Calls.onNew("ROOM of a WINDOW of a SHOW: 5 times PART, too")
            .due("ride(40, 1, 40, 0, 2)", 0).due("window(0, 0, 1)", 200)
            .due("part(0, 1, 6)", 1).due("window(0, 0, 1)", 0);
    }

    private static void roomOfNothing() {
        Calls.onNew("TAKING where ROOM is 0: there is no WINDOW")
            .due("ride(4, 1, 1, 5, 0)", 0).due("ride(4, 1, 0, 0, 0)", 1).due("ride(4, 1, 1, 99, 0)", 2)
            .due("group(1)", 0)
            .dueEach("free(0, #)", 0, -3, -3, -3)
            .dueEach("take(0, #)", 0, -3, -3, -3)
            .due("groupOf(0, 4)", 0)
            .due("count(13)", 6);
    }

    private static void roomOfOne() {
        Calls.onNew("TAKING where ROOM is 1: one has it, two have not")
            .due("ride(4, 1, 1, 4, 0)", 0)
            .due("group(1)", 0).due("group(2)", 1).due("group(1)", 2)
            .due("take(1, 0)", -3)
            .due("take(0, 0)", 1)
            .due("take(2, 0)", 2)
            .due("part(0, 1, 3)", 1)
            .due("take(1, 0)", 3);
    }

    private static void givenUpToRoom() {
        Calls.onNew("GIVEN and the GROUP together are not above ROOM")
            .due("ride(8, 1, 2, 2, 0)", 0)
            .due("group(5)", 0).due("group(4)", 1).due("group(3)", 2).due("group(1)", 3).due("group(8)", 4)
            .due("take(0, 0)", 1)
            .due("free(1, 0)", 2)
            .due("free(2, 0)", 1)
            .due("take(2, 0)", 1)
            .due("window(0, 1, 0)", 8)
            .due("take(3, 0)", 2)
            .due("take(4, 0)", 3)
            .due("part(0, 2, 3)", 1)
            .due("take(4, 0)", -3);
    }

    private static void givenAboveRoom() {
        Calls.onNew("promise 5: what was GIVEN stays, even above ROOM")
            .due("ride(8, 1, 2, 0, 0)", 0)
            .due("group(6)", 0).due("group(4)", 1).due("group(1)", 2)
            .due("take(0, 0)", 1).due("take(1, 0)", 1)
            .due("part(0, 0, 99)", 1)
            .due("window(0, 1, 0)", 10).due("window(0, 1, 1)", 0)
            .dueEach("groupOf(#, 4)", 0, 1, 1, 0)
            .due("take(2, 0)", -3)
            .due("part(0, 1, 0)", 1)
            .due("free(2, 0)", 2)
            .due("give(0, 0)", 1)
            .due("window(0, 1, 0)", 4)
            .due("take(2, 0)", 1)
            .due("ticks(5)", 0)
            .due("part(0, 0, 0)", 1)
            .due("come(1, 0)", 0)
            .due("window(0, 1, 0)", 5);
    }

    private static void givenBackIsRoomAgain() {
        Calls.onNew("GIVING it back: GIVEN is less, and a full WINDOW has room")
            .due("ride(8, 1, 1, 0, 0)", 0)
            .due("group(4)", 0).due("group(1)", 1).due("group(2)", 2)
            .due("take(0, 0)", 1).due("take(1, 0)", 1)
            .due("free(2, 0)", 2)
            .due("give(1, 0)", 1).due("window(0, 1, 0)", 4).due("free(2, 0)", 2)
            .due("take(1, 0)", 1)
            .due("give(0, 0)", 1).due("window(0, 1, 0)", 1).due("free(2, 0)", 1)
            .due("give(1, 0)", 1).due("window(0, 1, 0)", 0);
    }

    private static void takenBehindTheWindowOfNow() {
        Calls.onNew("the first WINDOW behind the one in which TICK is, at its first and its last TICK")
            .due("ride(8, 20, 8, 0, 0)", 0)
            .due("group(1)", 0)
            .due("free(0, 0)", 1)
            .due("ticks(99)", 0).due("free(0, 0)", 1)
            .due("ticks(1)", 0).due("free(0, 0)", 2)
            .due("ticks(99)", 0).due("free(0, 0)", 2)
            .due("ticks(1)", 0).due("free(0, 0)", 3);
    }

    private static void noneOfFortyWindows() {
        Scenes.withFortyFullWindows("of the 40 behind it: the last one is taken")
            .due("give(19, 1)", 40)
            .due("free(20, 0)", 40)
            .due("take(20, 0)", 40);
        Scenes.withFortyFullWindows("of the 40 behind it: the one behind them is not")
            .due("free(20, 0)", -3)
            .due("take(20, 0)", -3)
            .due("window(0, 41, 0)", 0)
            .due("ticks(4)", 0)
            .due("free(20, 0)", -3)
            .due("ticks(1)", 0)
            .due("free(20, 0)", 41)
            .due("take(20, 0)", 41);
        Scenes.withFortyFullWindows("of the 40 behind it: the WINDOW of now is not among them, even if it has room")
            .due("ticks(4)", 0)
            .due("go(0)", 2)
            .due("ticks(1)", 0)
            .due("window(0, 1, 0)", 0)
            .due("take(20, 0)", 2)
            .due("take(20, 0)", 41);
    }

    private static void fortyWindowsThatOverlap() {
        Calls.onNew("none of the 40 behind, as they all OVERLAP with one long WINDOW (TICKS 300 to 599)")
            .due("ride(8, 1, 2, 0, 0)", 0).due("ride(8, 20, 2, 0, 2)", 1)
            .due("group(1)", 0)
            .due("take(0, 1)", 1)
            .due("ticks(294)", 0)
            .due("free(0, 0)", 59)
            .due("walk(0, 1, 1)", 0)
            .due("free(0, 0)", -3)
            .due("walk(0, 1, 0)", 1)
            .due("ticks(1)", 0)
            .due("free(0, 0)", -3)
            .due("ticks(104)", 0)
            .due("free(0, 0)", -3)
            .due("ticks(1)", 0)
            .due("free(0, 0)", 120)
            .due("walk(0, 1, 1)", 0)
            .due("take(0, 0)", -3)
            .due("walk(0, 1, 0)", 1)
            .due("take(0, 0)", 120);
    }

    private static void overlapAtTheEnd() {
        Calls.onNew("OVERLAP: its last TICK (9) and the WALK are not below the first TICK of the other one (10, 15, ..)")
            .due("ride(8, 1, 2, 0, 0)", 0).due("ride(8, 1, 2, 0, 0)", 1)
            .due("group(1)", 0)
            .due("take(0, 0)", 1)
            .due("free(0, 1)", 2)
            .due("walk(0, 1, 1)", 0).due("free(0, 1)", 3)
            .due("walk(0, 1, 5)", 1).due("free(0, 1)", 3)
            .due("walk(0, 1, 6)", 5).due("free(0, 1)", 4)
            .due("walk(0, 1, 45)", 6).due("free(0, 1)", 11)
            .due("walk(0, 1, 46)", 45).due("free(0, 1)", 12)
            .due("walk(0, 1, 50)", 46).due("free(0, 1)", 12);
    }

    private static void overlapAtTheBeginning() {
        Calls.onNew("OVERLAP, the other way round: TICKS 5 to 9 and a WALK ahead of TICK 15")
            .due("ride(8, 1, 2, 0, 0)", 0).due("ride(8, 3, 2, 0, 0)", 1)
            .due("group(1)", 0)
            .due("take(0, 1)", 1)
            .due("walk(1, 0, 5)", 0).due("free(0, 0)", 1)
            .due("walk(1, 0, 6)", 5).due("free(0, 0)", 8)
            .due("walk(1, 0, 0)", 6)
            .due("ticks(5)", 0).due("free(0, 0)", 2)
            .due("walk(1, 0, 1)", 0).due("free(0, 0)", 7)
            .due("walk(1, 0, 0)", 1)
            .due("ticks(5)", 0).due("free(0, 0)", 6);
    }

    private static void overlapWithTheTimeBehindAnother() {
        Calls.onNew("OVERLAP with a TIME that was the second one, once the first is given back")
            .due("ride(8, 1, 2, 0, 0)", 0).due("ride(8, 1, 2, 0, 0)", 1)
            .due("group(1)", 0)
            .due("take(0, 0)", 1).due("take(0, 0)", 2)
            .due("give(0, 0)", 1)
            .due("walk(0, 1, 1)", 0)
            .due("free(0, 0)", 1)
            .due("free(0, 1)", 4)
            .due("give(0, 0)", 2)
            .due("free(0, 1)", 1);
    }

    private static void twoTimesAtMost() {
        Calls.onNew("a group has two TIMES at most")
            .due("ride(8, 1, 8, 0, 0)", 0).due("ride(8, 2, 8, 0, 0)", 1)
            .due("group(1)", 0)
            .due("take(0, 0)", 1)
            .due("take(0, 1)", 1)
            .due("take(0, 0)", -6).due("free(0, 0)", -6)
            .due("take(0, 1)", -6).due("free(0, 1)", -6)
            .due("groupOf(0, 4)", 2)
            .due("ticks(5)", 0)
            .due("come(0, 0)", 0)
            .due("take(0, 0)", 4)
            .due("take(0, 0)", -6)
            .due("window(0, 1, 0)", 1).due("window(0, 2, 0)", 0).due("window(0, 3, 0)", 0).due("window(0, 4, 0)", 1);
    }

    private static void timesInTheOrderInWhichTheyCame() {
        Calls.onNew("TIMES are in the order in which they came, not in that of WINDOWS")
            .due("ride(8, 20, 8, 0, 0)", 0).due("ride(8, 1, 8, 0, 0)", 1)
            .due("group(1)", 0)
            .due("take(0, 0)", 1).due("take(0, 1)", 1)
            .due("time(0, 0, 0)", 0).due("time(0, 1, 0)", 1)
            .due("give(0, 0)", 1)
            .due("time(0, 0, 0)", 1).due("time(0, 1, 0)", -1)
            .due("take(0, 0)", 1)
            .due("time(0, 0, 0)", 1).due("time(0, 1, 0)", 0);
    }

    private static void giveTheFirstOrTheSecond() {
        Calls.onNew("promise 7: TIME i (0, 1) of a GROUP, -1 (TIME, too)")
            .due("ride(8, 1, 8, 0, 0)", 0)
            .due("give(0, 0)", -1)
            .due("group(3)", 0)
            .dueEach("give(0, #)", -1, -1, -1, -1)
            .due("take(0, 0)", 1)
            .due("give(0, 1)", -1)
            .due("take(0, 0)", 2)
            .dueEach("give(0, #)", 2, -1, -1)
            .due("give(0, -1)", -1)
            .due("give(0, 1)", 2)
            .dueEach("window(0, #, 0)", 0, 0, 3, 0)
            .due("time(0, 0, 1)", 1)
            .due("give(0, 1)", -1)
            .due("give(0, 0)", 1)
            .dueEach("window(0, #, 0)", 0, 0, 0, 0)
            .due("give(0, 0)", -1)
            .due("give(1, 0)", -1).due("give(-1, 0)", -1)
            .due("count(11)", 12);
    }

    private static void goWithNoneOneOrTwo() {
        Calls.onNew("promise 11: its TIMES are given back: how many")
            .due("ride(8, 1, 8, 0, 0)", 0)
            .due("group(1)", 0).due("group(2)", 1).due("group(3)", 2)
            .due("take(1, 0)", 1).due("take(2, 0)", 1).due("take(2, 0)", 2)
            .dueEach("window(0, #, 0)", 1, 5, 3)
            .due("go(0)", 0)
            .dueEach("window(0, #, 0)", 1, 5, 3)
            .due("go(1)", 1)
            .dueEach("window(0, #, 0)", 1, 3, 3)
            .due("go(2)", 2)
            .dueEach("window(0, #, 0)", 1, 0, 0)
            .dueEach("groupOf(#, 4)", 0, 0, 0, 0)
            .dueEach("go(#)", 0, -2, -2, -2);
    }
}
