/** Promises 9, 12, 14 and 15 at the edges of ROUNDS and rows: when one begins and is over, what just fits, rows and RIDES that are empty and full. */
public final class RoundsEdgeTest {
    public static void main(String[] args) {
        noRoundAtTickZero();
        theShortestAndTheLongestRound();
        theShortestAndTheLongestShow();
        roundsOfAllTicks();
        onForOneRound();
        stopsAtTheLastMoment();
        rainAtTheLastMoment();
        stoppedRidesStillEnd();
        emptyRounds();
        partThatIsJustFilled();
        partOfNothing();
        partOfAllSeats();
        backStopsAtTheFirstThatDoesNotFit();
        standingJustFits();
        standingStopsAtTheFirstThatDoesNotFit();
        backIntoWhatIsLeft();
        singleWithoutASeatLeft();
        singleWithOneSeatLeft();
        singleFromTheEndOfAFullRow();
        singleWithoutGroupsOfOne();
        backThatNeverFits();
        standUpToSeatsLessPart();
        standAtARideThatDoesNotRun();
        waitJustFits();
        waitInAFullRow();
        waitWhileStoppedOrRaining();
        waitNever();
        aFullRowOfThoseBack();
        aFullPark();
        Calls.finish();
    }

    private static void noRoundAtTickZero() {
        Calls.onNew("no ROUND begins at TICK 0, nor when a RIDE is made at a multiple of its ROUND")
            .due("ride(2, 5, 0, 0, 0)", 0)
            .groups(0, 1, 2)
            .due("stand(0, 0)", 0)
            .due("rideOf(0, 12)", 0)
            .due("ticks(4)", 0)
            .due("ticks(1)", 2)
            .due("ride(2, 5, 0, 0, 0)", 1)
            .dueEach("rideOf(#, 12)", 0, 1, 0);
    }

    private static void theShortestAndTheLongestRound() {
        Calls.onNew("a ROUND begins at each TICK that is a multiple of its ROUND: 1 and 20")
            .due("ride(2, 1, 0, 0, 0)", 0).due("ride(2, 20, 0, 0, 0)", 1)
            .groups(0, 2, 2)
            .due("stand(0, 0)", 0).due("stand(1, 1)", 0)
            .due("ticks(1)", 2).dueEach("rideOf(#, 12)", 0, 1, 0)
            .dueEach("groupOf(#, 1)", 0, 3, 1)
            .due("ticks(1)", 0).dueEach("rideOf(#, 12)", 0, 2, 0)
            .dueEach("groupOf(#, 1)", 0, 0, 1)
            .due("ticks(17)", 0).dueEach("rideOf(#, 12)", 0, 19, 0)
            .due("ticks(1)", 2).dueEach("rideOf(#, 12)", 0, 20, 1)
            .due("ticks(19)", 0).dueEach("rideOf(#, 12)", 0, 39, 1)
            .due("groupOf(1, 1)", 3)
            .due("ticks(1)", 0).dueEach("rideOf(#, 12)", 0, 40, 2)
            .due("groupOf(1, 1)", 0);
    }

    private static void theShortestAndTheLongestShow() {
        Calls.onNew("a SHOW begins at multiples of 3 ROUNDS (so it is still for two): 1 and 20")
            .due("ride(2, 1, 0, 0, 2)", 0).due("ride(2, 20, 0, 0, 2)", 1)
            .groups(0, 2, 2)
            .due("stand(0, 0)", 0).due("stand(1, 1)", 0)
            .due("ticks(2)", 0).due("rideOf(0, 12)", 0)
            .due("ticks(1)", 2).due("rideOf(0, 12)", 1)
            .due("groupOf(0, 1)", 3)
            .due("ticks(1)", 0).due("groupOf(0, 1)", 0)
            .due("ticks(1)", 0).due("rideOf(0, 12)", 1)
            .due("ticks(1)", 0).due("rideOf(0, 12)", 2)
            .due("ticks(53)", 0).due("rideOf(1, 12)", 0)
            .due("ticks(1)", 2).due("rideOf(1, 12)", 1)
            .due("ticks(19)", 0).due("groupOf(1, 1)", 3)
            .due("ticks(1)", 0).due("groupOf(1, 1)", 0)
            .due("ticks(39)", 0).due("rideOf(1, 12)", 1)
            .due("ticks(1)", 0).due("rideOf(1, 12)", 2);
    }

    private static void roundsOfAllTicks() {
        Calls.onNew("ROUNDS that began in all 5000 TICKS, and seats that were empty in them")
            .due("ride(40, 1, 0, 0, 0)", 0).due("ride(40, 20, 0, 0, 0)", 1)
            .due("ride(40, 1, 0, 0, 2)", 2).due("ride(40, 20, 0, 0, 2)", 3)
            .due("ticks(5000)", 0)
            .dueEach("rideOf(#, 12)", 0, 5000, 250, 1666, 83)
            .dueEach("rideOf(#, 10)", 0, 200000, 10000, 66640, 3320);
    }

    private static void onForOneRound() {
        Calls.onNew("who is ON since a TICK that is a ROUND ahead is WALKING, and can be ON again behind one more")
            .due("ride(2, 3, 0, 0, 0)", 0)
            .groups(0, 1, 2)
            .due("stand(0, 0)", 0)
            .due("ticks(3)", 2)
            .due("stand(0, 0)", -2)
            .due("ticks(2)", 0).due("groupOf(0, 1)", 3).due("stand(0, 0)", -2)
            .due("ticks(1)", 0).due("groupOf(0, 1)", 0).due("stand(0, 0)", 0)
            .due("ticks(3)", 2)
            .dueEach("rideOf(0, #)", 8, 2, 4, 2, 0, 3)
            .due("groupOf(0, 6)", 2);
    }

    private static void stopsAtTheLastMoment() {
        Calls.onNew("a ROUND begins if the RIDE RUNS at that TICK, whatever was ahead of it")
            .due("ride(2, 3, 0, 0, 0)", 0)
            .groups(0, 1, 2)
            .due("stand(0, 0)", 0)
            .due("ticks(2)", 0)
            .due("stop(0, true)", 1)
            .due("ticks(1)", 0).due("rideOf(0, 12)", 0).due("rideOf(0, 10)", 0)
            .due("stop(0, false)", 1)
            .due("ticks(2)", 0).due("rideOf(0, 12)", 0)
            .due("stop(0, true)", 1).due("stop(0, false)", 1)
            .due("ticks(1)", 2).due("rideOf(0, 12)", 1);
    }

    private static void rainAtTheLastMoment() {
        Calls.onNew("a ROUND of a WET one begins if it does not rain at that TICK")
            .due("ride(2, 3, 0, 0, 3)", 0)
            .groups(0, 1, 2)
            .due("stand(0, 0)", 0)
            .due("ticks(2)", 0)
            .due("rain(true)", 1)
            .due("ticks(1)", 0).due("rideOf(0, 12)", 0)
            .due("ticks(2)", 0)
            .due("rain(false)", 1)
            .due("ticks(1)", 2).due("rideOf(0, 12)", 1)
            .due("rain(true)", 1)
            .due("ticks(2)", 0).due("groupOf(0, 1)", 3)
            .due("ticks(1)", 0).due("groupOf(0, 1)", 0);
    }

    private static void stoppedRidesStillEnd() {
        Calls.onNew("promise 12: who is ON stays ON till the ROUND ahead is over")
            .due("ride(2, 20, 0, 0, 0)", 0)
            .groups(0, 1, 2)
            .due("stand(0, 0)", 0)
            .due("ticks(20)", 2)
            .due("stop(0, true)", 1)
            .due("ticks(19)", 0).due("groupOf(0, 1)", 3).due("rideOf(0, 8)", 2).due("count(4)", 2)
            .due("ticks(1)", 0).due("groupOf(0, 1)", 0).due("rideOf(0, 8)", 0).due("count(4)", 0)
            .due("rideOf(0, 12)", 1);
    }

    private static void emptyRounds() {
        Calls.onNew("a ROUND with empty rows begins, too, and all its seats are empty")
            .due("ride(7, 2, 3, 0, 0)", 0).due("ride(7, 2, 7, 0, 1)", 1)
            .due("ticks(4)", 0)
            .dueEach("rideOf(0, #)", 6, 0, 0, 0, 0, 14, 0, 2)
            .dueEach("rideOf(1, #)", 6, 0, 0, 0, 0, 14, 0, 2);
    }

    private static void partThatIsJustFilled() {
        Scenes.withBack("(1) as long as the next one fits into what is left of PART: 2 and 2 into 4", "ride(6, 1, 4, 0, 0)", 2, 2)
            .due("group(2)", 2).due("group(2)", 3)
            .due("stand(2, 0)", 0).due("stand(3, 0)", 1)
            .due("ticks(1)", 6)
            .dueEach("groupOf(#, 1)", 0, 3, 3, 3, 1);
        Scenes.withBack("(1) as long as the next one fits into what is left of PART: 2 and 3 not into 4", "ride(6, 1, 4, 0, 0)", 2, 3)
            .due("group(2)", 2).due("group(2)", 3)
            .due("stand(2, 0)", 0).due("stand(3, 0)", 1)
            .due("ticks(1)", 6)
            .dueEach("groupOf(#, 1)", 0, 3, 2, 3, 3);
    }

    private static void partOfNothing() {
        Scenes.withBack("(1) PART 0: those BACK have what those who stand leave, and no more", "ride(4, 1, 2, 0, 0)", 1)
            .due("part(0, 0, 0)", 1)
            .due("group(4)", 1)
            .due("stand(1, 0)", 0)
            .due("ticks(1)", 4)
            .dueEach("groupOf(#, 1)", 0, 2, 3)
            .due("ticks(1)", 1)
            .dueEach("groupOf(#, 1)", 0, 3, 0);
    }

    private static void partOfAllSeats() {
        Scenes.withBack("(1) PART of all SEATS: those BACK fill them, who stands has what they leave", "ride(4, 1, 2, 0, 0)", 3, 1, 1)
            .due("group(2)", 3)
            .due("stand(3, 0)", 0)
            .due("part(0, 4, 0)", 1)
            .due("ticks(1)", 4)
            .dueEach("groupOf(#, 1)", 0, 3, 3, 2, 1)
            .due("rideOf(0, 10)", 5 * 4)
            .due("ticks(1)", 3)
            .dueEach("groupOf(#, 1)", 0, 0, 0, 3, 3);
    }

    private static void backStopsAtTheFirstThatDoesNotFit() {
        Scenes.withBack("(1) and (3) in order: one behind the first that does not fit waits", "ride(6, 1, 2, 0, 0)", 5, 1)
            .due("group(2)", 2)
            .due("stand(2, 0)", 0)
            .due("ticks(1)", 2)
            .dueEach("groupOf(#, 1)", 0, 2, 2, 3)
            .due("rideOf(0, 10)", 5 * 6 + 4)
            .due("ticks(1)", 6)
            .dueEach("groupOf(#, 1)", 0, 3, 3, 0);
    }

    private static void standingJustFits() {
        Calls.onNew("(2) as long as the next one fits into what is left of SEATS: 3 and 1 into 4")
            .due("ride(4, 1, 0, 0, 0)", 0)
            .due("group(3)", 0).due("group(1)", 1).due("group(4)", 2).due("group(1)", 3)
            .due("stand(0, 0)", 0).due("stand(1, 0)", 1).due("stand(2, 0)", 2).due("stand(3, 0)", 3)
            .due("ticks(1)", 4).dueEach("groupOf(#, 1)", 0, 3, 3, 1, 1)
            .due("ticks(1)", 4).dueEach("groupOf(#, 1)", 0, 0, 0, 3, 1)
            .due("rideOf(0, 10)", 0)
            .due("ticks(1)", 1).dueEach("groupOf(#, 1)", 0, 0, 0, 0, 3)
            .due("rideOf(0, 10)", 3);
    }

    private static void standingStopsAtTheFirstThatDoesNotFit() {
        Calls.onNew("(2) in order: 3 and 2 not into 4, and one behind waits")
            .due("ride(4, 1, 0, 0, 0)", 0)
            .due("group(3)", 0).due("group(2)", 1).due("group(1)", 2)
            .due("stand(0, 0)", 0).due("stand(1, 0)", 1).due("stand(2, 0)", 2)
            .due("ticks(1)", 3).dueEach("groupOf(#, 1)", 0, 3, 1, 1)
            .dueEach("row(0, false, #)", 0, 1, 2, -9)
            .due("ticks(1)", 3).dueEach("groupOf(#, 1)", 0, 0, 3, 3);
    }

    private static void backIntoWhatIsLeft() {
        Scenes.withBack("(3) as long as the next one fits into what is left of SEATS: 3 and 1 into 4", "ride(6, 1, 2, 0, 0)", 3, 1, 1)
            .due("group(2)", 3)
            .due("stand(3, 0)", 0)
            .due("ticks(1)", 6)
            .dueEach("groupOf(#, 1)", 0, 3, 3, 2, 3);
        Scenes.withBack("(3) as long as the next one fits into what is left of SEATS: 3 and 2 not into 4", "ride(6, 1, 2, 0, 0)", 3, 2)
            .due("group(2)", 2)
            .due("stand(2, 0)", 0)
            .due("ticks(1)", 5)
            .dueEach("groupOf(#, 1)", 0, 3, 2, 3);
        Scenes.withBack("(3) with no seat left", "ride(6, 1, 2, 0, 0)", 3)
            .due("group(4)", 1).due("group(2)", 2)
            .due("stand(1, 0)", 0).due("stand(2, 0)", 1)
            .due("ticks(1)", 6)
            .dueEach("groupOf(#, 1)", 0, 2, 3, 3);
    }

    private static void singleWithoutASeatLeft() {
        Calls.onNew("(4) as long as a seat is left: none")
            .due("ride(3, 1, 0, 0, 1)", 0)
            .due("group(3)", 0).due("group(2)", 1).due("group(1)", 2)
            .due("stand(0, 0)", 0).due("stand(1, 0)", 1).due("stand(2, 0)", 2)
            .due("ticks(1)", 3).dueEach("groupOf(#, 1)", 0, 3, 1, 1)
            .due("ticks(1)", 3).dueEach("groupOf(#, 1)", 0, 0, 3, 3);
        Calls.onNew("(4) behind (3): those BACK have the seat first")
            .due("ride(3, 1, 1, 0, 1)", 0)
            .due("group(2)", 0).due("group(1)", 1).due("group(2)", 2).due("group(1)", 3)
            .due("take(1, 0)", 1)
            .due("ticks(5)", 0)
            .due("part(0, 0, 0)", 1)
            .due("come(1, 0)", 0)
            .due("stand(0, 0)", 0).due("stand(2, 0)", 1).due("stand(3, 0)", 2)
            .due("ticks(1)", 3)
            .dueEach("groupOf(#, 1)", 0, 3, 3, 1, 1);
    }

    private static void singleWithOneSeatLeft() {
        Calls.onNew("(4) in order, as long as a seat is left: one, and two who would have it")
            .due("ride(3, 1, 0, 0, 1)", 0)
            .due("group(2)", 0).due("group(2)", 1).due("group(1)", 2).due("group(1)", 3)
            .due("stand(0, 0)", 0).due("stand(1, 0)", 1).due("stand(3, 0)", 2).due("stand(2, 0)", 3)
            .due("ticks(1)", 3).dueEach("groupOf(#, 1)", 0, 3, 1, 1, 3)
            .dueEach("row(0, false, #)", 0, 1, 2, -9);
    }

    private static void singleFromTheEndOfAFullRow() {
        Calls.onNew("(4) wherever they stand: the last one of a full row")
            .due("ride(3, 1, 0, 0, 1)", 0)
            .groups(0, 59, 2).groups(59, 1, 1)
            .dueInOrder("stand(#, 0)", 0, 59, 0)
            .due("wait(59)", 59)
            .due("ticks(1)", 3)
            .dueEach("groupOf(#, 1)", 58, 1, 3)
            .due("rideOf(0, 6)", 58)
            .due("row(0, false, 57)", 58).due("row(0, false, 58)", -9)
            .due("ticks(1)", 2)
            .due("rideOf(0, 10)", 1);
    }

    private static void singleWithoutGroupsOfOne() {
        Calls.onNew("(4) no groups of one: the seats stay empty; of another KIND they do, too")
            .due("ride(3, 1, 0, 0, 1)", 0).due("ride(3, 1, 0, 0, 0)", 1)
            .due("ride(3, 1, 0, 0, 3)", 2).due("ride(3, 1, 0, 0, 2)", 3)
            .groups(0, 8, 2).groups(8, 3, 1)
            .due("stand(0, 0)", 0).due("stand(1, 0)", 1)
            .due("stand(2, 1)", 0).due("stand(3, 1)", 1).due("stand(8, 1)", 2)
            .due("stand(4, 2)", 0).due("stand(5, 2)", 1).due("stand(9, 2)", 2)
            .due("ticks(1)", 6)
            .dueEach("rideOf(#, 10)", 0, 1, 1, 1, 0)
            .due("stand(6, 3)", 0).due("stand(7, 3)", 1).due("stand(10, 3)", 2)
            .due("ticks(1)", 8)
            .due("ticks(1)", 2)
            .dueEach("rideOf(#, 10)", 0, 5, 4, 4, 1);
    }

    private static void backThatNeverFits() {
        Scenes.withBack("a GROUP that is more than SEATS can be BACK; it is never ON, and who is behind it waits", "ride(2, 1, 2, 0, 0)", 3, 1)
            .due("group(2)", 2)
            .due("ticks(5)", 0)
            .dueEach("groupOf(#, 1)", 0, 2, 2, 0)
            .due("stop(0, true)", 1)
            .due("ticks(5)", 0)
            .due("stop(0, false)", 1)
            .due("leave(0)", 0)
            .due("ticks(1)", 1)
            .dueEach("groupOf(#, 1)", 0, 0, 3, 0);
    }

    private static void standUpToSeatsLessPart() {
        Calls.onNew("promise 9: -6 it is more than SEATS less PART")
            .due("ride(8, 1, 0, 0, 0)", 0).due("ride(8, 1, 1, 0, 0)", 1)
            .due("ride(8, 1, 7, 0, 0)", 2).due("ride(8, 1, 8, 0, 0)", 3)
            .due("group(8)", 0).due("group(7)", 1).due("group(1)", 2).due("group(2)", 3)
            .due("stand(0, 1)", -6).due("stand(0, 0)", 0)
            .due("stand(1, 2)", -6).due("stand(1, 1)", 0)
            .due("stand(3, 2)", -6).due("stand(2, 3)", -6).due("stand(2, 2)", 0)
            .due("stand(3, 3)", -6)
            .due("part(3, 6, 0)", 1)
            .due("stand(3, 3)", 0)
            .due("ticks(1)", 18);
    }

    private static void standAtARideThatDoesNotRun() {
        Calls.onNew("promises 8 and 9: a row of a RIDE that does not RUN is a row, too")
            .due("ride(8, 1, 2, 0, 3)", 0)
            .groups(0, 2, 1)
            .due("take(1, 0)", 1)
            .due("stop(0, true)", 1).due("rain(true)", 1)
            .due("stand(0, 0)", 0)
            .due("ticks(5)", 0)
            .due("come(1, 0)", 0)
            .due("ticks(4)", 0)
            .dueEach("groupOf(#, 1)", 0, 1, 2)
            .due("take(0, 0)", 2)
            .due("stop(0, false)", 1).due("rain(false)", 1)
            .due("ticks(1)", 2);
    }

    private static void waitJustFits() {
        Calls.onNew("WAIT: SEATS less PART are filled as in (2), what just fits is in the same ROUND")
            .due("ride(6, 1, 2, 0, 0)", 0)
            .due("group(3)", 0).due("group(1)", 1).due("group(4)", 2).due("group(2)", 3).due("group(3)", 4).due("group(1)", 5)
            .dueInOrder("stand(#, 0)", 0, 5, 0)
            .dueEach("wait(#)", 0, 1, 1, 2, 3, 4, 4)
            .due("part(0, 1, 0)", 1)
            .dueEach("wait(#)", 0, 1, 1, 2, 3, 3, 4)
            .due("part(0, 0, 0)", 1)
            .dueEach("wait(#)", 0, 1, 1, 2, 2, 3, 3)
            .due("leave(0)", 0)
            .due("wait(0)", -2).dueEach("wait(#)", 1, 1, 1, 2, 2, 2);
    }

    private static void waitInAFullRow() {
        Calls.onNew("WAIT of the first and of the last one in a full row, one seat")
            .due("ride(1, 20, 0, 0, 0)", 0)
            .groups(0, 60, 1)
            .dueInOrder("stand(#, 0)", 0, 59, 0)
            .dueInOrder("wait(#)", 0, 59, 1)
            .due("ticks(20)", 1)
            .due("wait(0)", -2)
            .dueInOrder("wait(#)", 1, 59, 1);
        Calls.onNew("WAIT in a full row, forty seats")
            .due("ride(40, 20, 0, 0, 0)", 0)
            .groups(0, 60, 1)
            .dueInOrder("stand(#, 0)", 0, 59, 0)
            .due("wait(0)", 1).due("wait(39)", 1).due("wait(40)", 2).due("wait(59)", 2)
            .due("part(0, 39, 0)", 1)
            .due("wait(0)", 1).due("wait(39)", 40).due("wait(59)", 60);
    }

    private static void waitWhileStoppedOrRaining() {
        Calls.onNew("WAIT: if nobody comes any more and the RIDE RUNS, at once or not")
            .due("ride(2, 20, 1, 0, 3)", 0)
            .groups(0, 3, 1)
            .dueInOrder("stand(#, 0)", 0, 2, 0)
            .dueEach("wait(#)", 0, 1, 2, 3)
            .due("stop(0, true)", 1)
            .dueEach("wait(#)", 0, 1, 2, 3)
            .due("rain(true)", 1)
            .due("ticks(19)", 0)
            .dueEach("wait(#)", 0, 1, 2, 3);
    }

    private static void waitNever() {
        Calls.onNew("promise 15: -3 it would never be ON (PART was made greater)")
            .due("ride(4, 20, 0, 0, 0)", 0)
            .due("group(2)", 0).due("group(3)", 1).due("group(1)", 2)
            .dueInOrder("stand(#, 0)", 0, 2, 0)
            .due("part(0, 1, 0)", 1).dueEach("wait(#)", 0, 1, 2, 3)
            .due("part(0, 2, 0)", 1).dueEach("wait(#)", 0, 1, -3, -3)
            .due("part(0, 3, 0)", 1).dueEach("wait(#)", 0, -3, -3, -3)
            .due("leave(0)", 0).due("leave(1)", 0)
            .due("wait(2)", 1)
            .due("part(0, 4, 0)", 1).due("wait(2)", -3)
            .due("part(0, 3, 0)", 1).due("wait(2)", 1)
            .due("count(13)", 6);
    }

    private static void aFullRowOfThoseBack() {
        Calls calls = Calls.onNew("all 60 GROUPS BACK at one RIDE, in the order in which they came")
            .due("ride(40, 20, 30, 0, 0)", 0)
            .groups(0, 60, 1);
        for (int i = 0; i < 60; i++) {
            calls.due("take(" + i + ", 0)", 1);
        }
        calls.due("window(0, 1, 0)", 60)
            .due("ticks(100)", 0)
            .dueInOrder("come(#, 0)", 0, 59, 0)
            .due("rideOf(0, 7)", 60).due("count(5)", 60)
            .due("row(0, true, 59)", 59).due("row(0, true, 60)", -9)
            .due("leave(0)", 0)
            .due("groupOf(59, 3)", 58)
            .due("stand(0, 0)", 0)
            .due("ticks(20)", 40)
            .due("groupOf(0, 1)", 3)
            .due("row(0, true, 0)", 40)
            .due("rideOf(0, 7)", 20)
            .due("ticks(20)", 20)
            .due("rideOf(0, 7)", 0).due("row(0, true, 0)", -9)
            .dueEach("rideOf(0, #)", 8, 20, 60, 220);
    }

    private static void aFullPark() {
        Calls calls = Calls.onNew("a full park: 8 RIDES and 60 GROUPS of 8");
        for (int i = 0; i < 8; i++) {
            calls.due("ride(40, 2, 0, 0, " + (i % 2) + ")", i);
        }
        calls.groups(0, 60, 8);
        for (int i = 0; i < 60; i++) {
            calls.due("stand(" + i + ", " + (i % 8) + ")", i / 8);
        }
        calls.dueEach("count(#)", 0, 0, 8, 60, 480, 0, 480, 0)
            .due("ticks(2)", 320)
            .dueEach("count(#)", 3, 480, 320, 160, 0)
            .dueEach("rideOf(#, 8)", 0, 40, 40, 40, 40, 40, 40, 40, 40)
            .due("ticks(2)", 160)
            .dueEach("count(#)", 3, 480, 160, 0, 0)
            .due("ticks(2)", 0)
            .dueEach("count(#)", 3, 480, 0, 0, 0);
        for (int i = 0; i < 60; i++) {
            calls.due("go(" + i + ")", 0);
        }
        calls.dueEach("count(#)", 3, 480, 0, 0, 480);
    }
}
