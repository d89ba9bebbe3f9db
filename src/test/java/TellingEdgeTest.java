/** Promises 12, 13 and 17 to 22 at their edges: each what that there is, the ones beside it, and where there is nothing to tell. */
public final class TellingEdgeTest {
    private static final int LEAST = Integer.MIN_VALUE;
    private static final int MOST = Integer.MAX_VALUE;

    public static void main(String[] args) {
        groupWalking();
        groupStanding();
        groupBack();
        groupOn();
        groupGone();
        groupOfAnotherWhat();
        times();
        rideOfAnotherWhat();
        rideThatIsNew();
        rideRuns();
        windows();
        rowsThatAreEmpty();
        rowsWithOne();
        rowsThatAreFull();
        countsOfANewPark();
        countsOfPeople();
        countsOfRefusals();
        minusNineAndFalseAreNoRefusals();
        stopAsItWas();
        Calls.finish();
    }

    private static void groupWalking() {
        Calls.onNew("promise 17: a WALKING GROUP has no RIDE (-9) and no place (-9)")
            .due("group(7)", 0)
            .dueEach("groupOf(0, #)", -1, -9, 7, 0, -9, -9, 0, 0, 0, 0, 0, -9);
    }

    private static void groupStanding() {
        Calls.onNew("promise 17: a STANDING GROUP has a RIDE and a place, the first is 0")
            .due("ride(8, 5, 0, 0, 0)", 0).due("ride(8, 5, 0, 0, 0)", 1)
            .groups(0, 3, 2)
            .due("stand(2, 1)", 0).due("stand(0, 1)", 1).due("stand(1, 0)", 0)
            .dueEach("groupOf(2, #)", 0, 2, 1, 1, 0, 0, 0, 0, 0, 0)
            .dueEach("groupOf(0, #)", 0, 2, 1, 1, 1, 0, 0, 0, 0, 0)
            .dueEach("groupOf(1, #)", 0, 2, 1, 0, 0, 0, 0, 0, 0, 0);
    }

    private static void groupBack() {
        Calls.onNew("promise 17: a GROUP that is BACK has a RIDE and a place in that row, whoever stands")
            .due("ride(8, 2, 4, 0, 0)", 0)
            .groups(0, 3, 2)
            .due("take(0, 0)", 1).due("take(2, 0)", 1)
            .due("ticks(10)", 0)
            .due("stand(1, 0)", 0)
            .due("come(2, 0)", 0).due("come(0, 0)", 1)
            .dueEach("groupOf(0, #)", 0, 2, 2, 0, 1, 0, 0, 0, 0, 0)
            .dueEach("groupOf(2, #)", 0, 2, 2, 0, 0, 0, 0, 0, 0, 0)
            .dueEach("groupOf(1, #)", 0, 2, 1, 0, 0, 0, 0, 0, 0, 0);
    }

    private static void groupOn() {
        Calls.onNew("promise 17: a GROUP ON a RIDE has a RIDE and no place (-9)")
            .due("ride(8, 5, 0, 0, 0)", 0).due("ride(8, 2, 0, 0, 0)", 1)
            .groups(0, 1, 2)
            .due("stand(0, 1)", 0)
            .due("ticks(2)", 2)
            .dueEach("groupOf(0, #)", 0, 2, 3, 1, -9, 0, 0, 1, 0, 0);
    }

    private static void groupGone() {
        Calls.onNew("promise 17: a GONE GROUP has no RIDE (-9), no place (-9) and no TIMES")
            .due("ride(8, 5, 2, 0, 0)", 0)
            .groups(0, 1, 2)
            .due("take(0, 0)", 1)
            .due("go(0)", 1)
            .dueEach("groupOf(0, #)", 0, 2, 4, -9, -9, 0, 0, 0, 0, 0)
            .due("groupOf(0, 9)", -9);
    }

    private static void groupOfAnotherWhat() {
        Calls.onNew("promise 17: -1; -9 another what")
            .due("groupOf(0, 0)", -1)
            .due("group(1)", 0)
            .due("groupOf(0, 8)", 0).due("groupOf(0, 9)", -9).due("groupOf(0, -1)", -9)
            .due("groupOf(0, " + LEAST + ")", -9).due("groupOf(0, " + MOST + ")", -9)
            .due("groupOf(1, 0)", -1).due("groupOf(-1, 0)", -1)
            .due("groupOf(" + LEAST + ", 0)", -1).due("groupOf(" + MOST + ", 0)", -1)
            .due("groupOf(1, 9)", -1).due("groupOf(-1, -1)", -1)
            .due("count(11)", 7);
    }

    private static void times() {
        Calls.onNew("promise 18: -1 (TIME, too); -9 another what")
            .due("time(0, 0, 0)", -1)
            .due("ride(8, 1, 2, 0, 0)", 0)
            .due("group(1)", 0)
            .due("time(0, 0, 0)", -1).due("time(0, 0, 2)", -1)
            .due("take(0, 0)", 1)
            .dueEach("time(0, 0, #)", -1, -9, 0, 1, -9)
            .due("time(0, 0, " + LEAST + ")", -9).due("time(0, 0, " + MOST + ")", -9)
            .dueEach("time(0, #, 1)", -1, -1, 1, -1, -1)
            .due("take(0, 0)", 2)
            .dueEach("time(0, #, 1)", -1, -1, 1, 2, -1)
            .due("time(0, " + LEAST + ", 0)", -1).due("time(0, " + MOST + ", 0)", -1)
            .due("time(1, 0, 0)", -1).due("time(-1, 0, 0)", -1)
            .due("time(1, 0, 2)", -1).due("time(0, 2, 2)", -1)
            .due("count(11)", 14);
    }

    private static void rideOfAnotherWhat() {
        Calls.onNew("promise 19: -1; -9 another what")
            .due("rideOf(0, 0)", -1)
            .due("ride(8, 1, 2, 0, 0)", 0)
            .due("rideOf(0, 12)", 0).due("rideOf(0, 13)", -9).due("rideOf(0, -1)", -9)
            .due("rideOf(0, " + LEAST + ")", -9).due("rideOf(0, " + MOST + ")", -9)
            .due("rideOf(1, 0)", -1).due("rideOf(-1, 0)", -1)
            .due("rideOf(" + LEAST + ", 0)", -1).due("rideOf(" + MOST + ", 0)", -1)
            .due("rideOf(1, 13)", -1).due("rideOf(-1, -1)", -1)
            .due("count(11)", 7);
    }

    private static void rideThatIsNew() {
        Calls.onNew("promise 19: a RIDE that is made later has its WINDOW of now, and no ROUNDS yet")
            .due("ticks(23)", 0)
            .due("ride(8, 2, 3, 4, 0)", 0)
            .dueEach("rideOf(0, #)", 0, 8, 2, 3, 4, 0, 1, 0, 0, 0, 0, 0, 2, 0)
            .due("ticks(1)", 0)
            .dueEach("rideOf(0, #)", 10, 8, 2, 1);
    }

    private static void rideRuns() {
        Calls.onNew("promise 19: 1 if it RUNS (a WET one: and it does not rain)")
            .due("ride(1, 1, 0, 0, 0)", 0).due("ride(1, 1, 0, 0, 1)", 1)
            .due("ride(1, 1, 0, 0, 2)", 2).due("ride(1, 1, 0, 0, 3)", 3)
            .dueEach("rideOf(#, 5)", 0, 1, 1, 1, 1)
            .due("rain(true)", 1)
            .dueEach("rideOf(#, 5)", 0, 1, 1, 1, 0)
            .due("stop(3, true)", 1).due("stop(0, true)", 1)
            .dueEach("rideOf(#, 5)", 0, 0, 1, 1, 0)
            .due("rain(false)", 1)
            .dueEach("rideOf(#, 5)", 0, 0, 1, 1, 0)
            .due("stop(3, false)", 1).due("stop(0, false)", 1)
            .dueEach("rideOf(#, 5)", 0, 1, 1, 1, 1);
    }

    private static void windows() {
        Calls.onNew("promise 20: -1 (a WINDOW below 0, too); -9 another what")
            .due("window(0, 0, 0)", -1)
            .due("ride(8, 1, 2, 0, 0)", 0)
            .due("group(3)", 0)
            .due("take(0, 0)", 1)
            .dueEach("window(0, #, 0)", -1, -1, 0, 3, 0)
            .dueEach("window(0, #, 1)", -1, -1, 10, 10, 10)
            .dueEach("window(0, 1, #)", -1, -9, 3, 10, -9)
            .due("window(0, 1, " + LEAST + ")", -9).due("window(0, 1, " + MOST + ")", -9)
            .due("window(0, " + LEAST + ", 0)", -1).due("window(0, " + LEAST + ", 1)", -1)
            .due("window(0, " + MOST + ", 0)", 0).due("window(0, " + MOST + ", 1)", 10)
            .due("window(0, " + MOST + ", 2)", -9)
            .due("window(1, 0, 0)", -1).due("window(-1, 0, 0)", -1)
            .due("window(0, -1, 2)", -1).due("window(1, 0, 2)", -1)
            .due("count(11)", 9);
    }

    private static void rowsThatAreEmpty() {
        Calls.onNew("promise 21: an empty row: -9; no RIDE: -1")
            .due("row(0, false, 0)", -1)
            .due("ride(8, 1, 2, 0, 0)", 0)
            .due("group(1)", 0)
            .dueEach("row(0, false, #)", -1, -9, -9, -9)
            .dueEach("row(0, true, #)", -1, -9, -9, -9)
            .due("row(0, false, " + LEAST + ")", -9).due("row(0, true, " + MOST + ")", -9)
            .due("row(1, false, 0)", -1).due("row(-1, true, 0)", -1)
            .due("row(1, false, -1)", -1).due("row(" + MOST + ", true, " + LEAST + ")", -1)
            .due("count(11)", 5);
    }

    private static void rowsWithOne() {
        Calls.onNew("promise 21: the one GROUP of a row is GROUP 0 of it, and of no other row")
            .due("ride(8, 20, 2, 0, 0)", 0).due("ride(8, 20, 2, 0, 0)", 1)
            .groups(0, 3, 1)
            .due("stand(2, 0)", 0)
            .dueEach("row(0, false, #)", -1, -9, 2, -9)
            .due("row(0, true, 0)", -9)
            .due("row(1, false, 0)", -9)
            .due("leave(2)", 0)
            .due("row(0, false, 0)", -9)
            .due("rideOf(0, 6)", 0);
    }

    private static void rowsThatAreFull() {
        Calls.onNew("promise 21: all 60 GROUPS in one row")
            .due("ride(40, 20, 0, 0, 0)", 0)
            .groups(0, 60, 8)
            .dueInOrder("stand(#, 0)", 0, 59, 0)
            .dueInOrder("row(0, false, #)", 0, 59, 0)
            .due("row(0, false, 60)", -9)
            .due("groupOf(59, 3)", 59)
            .due("rideOf(0, 6)", 60)
            .due("count(5)", 480)
            .due("leave(0)", 0)
            .due("row(0, false, 58)", 59).due("row(0, false, 59)", -9)
            .due("groupOf(59, 3)", 58)
            .due("stand(0, 0)", 59)
            .due("row(0, false, 59)", 0)
            .due("ticks(20)", 40)
            .dueEach("row(0, false, #)", 0, 6, 7)
            .due("rideOf(0, 6)", 55).due("rideOf(0, 8)", 40)
            .due("count(4)", 40).due("count(5)", 440);
    }

    private static void countsOfANewPark() {
        Calls.onNew("promise 22: what 0 .. 6 and 11 .. 16, -9 for another what")
            .dueEach("count(#)", -1, -9, 0, 0, 0, 0, 0, 0, 0, -9, -9, -9, -9, 0, 0, 0, 0, 0, 0, -9)
            .due("count(" + LEAST + ")", -9).due("count(" + MOST + ")", -9)
            .dueEach("count(#)", 11, 0, 0, 0, 0, 0, 0);
    }

    private static void countsOfPeople() {
        Calls.onNew("promise 22: people in all, ON, in rows (both), GONE")
            .due("ride(8, 1, 2, 0, 0)", 0).due("ride(8, 3, 0, 0, 0)", 1)
            .due("group(1)", 0).due("group(2)", 1).due("group(3)", 2).due("group(4)", 3).due("group(5)", 4)
            .dueEach("count(#)", 3, 15, 0, 0, 0)
            .due("take(1, 0)", 1)
            .due("ticks(8)", 0)
            .due("stand(3, 1)", 0)
            .dueEach("count(#)", 3, 15, 0, 4, 0)
            .due("ticks(1)", 4)
            .dueEach("count(#)", 3, 15, 4, 0, 0)
            .due("come(1, 0)", 0)
            .due("stand(2, 0)", 0)
            .due("go(4)", 0)
            .dueEach("count(#)", 3, 15, 4, 5, 5)
            .due("leave(1)", 0)
            .dueEach("count(#)", 3, 15, 4, 3, 5)
            .due("ticks(1)", 3)
            .dueEach("count(#)", 3, 15, 7, 0, 5)
            .due("ticks(2)", 0)
            .dueEach("count(#)", 0, 12, 2, 5, 15, 0, 0, 5);
    }

    private static void countsOfRefusals() {
        Calls.onNew("promise 22: 11 .. 16 REFUSALS -1 .. -6, each its own")
            .due("go(0)", -1)
            .dueEach("count(#)", 11, 1, 0, 0, 0, 0, 0)
            .due("group(1)", 0)
            .due("leave(0)", -2)
            .dueEach("count(#)", 11, 1, 1, 0, 0, 0, 0)
            .due("ride(1, 1, 0, 0, 0)", 0)
            .due("take(0, 0)", -3)
            .dueEach("count(#)", 11, 1, 1, 1, 0, 0, 0)
            .due("ticks(0)", -4)
            .dueEach("count(#)", 11, 1, 1, 1, 1, 0, 0)
            .due("ticks(5001)", -6)
            .dueEach("count(#)", 11, 1, 1, 1, 1, 0, 1);
    }

    private static void minusNineAndFalseAreNoRefusals() {
        Calls.onNew("promise 22: -9 and false are not among the REFUSALS")
            .due("ride(1, 1, 1, 0, 0)", 0)
            .due("group(1)", 0)
            .due("take(0, 0)", 1)
            .due("groupOf(0, 2)", -9).due("groupOf(0, 9)", -9)
            .due("time(0, 0, 2)", -9).due("rideOf(0, 13)", -9).due("window(0, 0, 2)", -9)
            .due("row(0, false, 0)", -9).due("count(17)", -9).due("count(7)", -9)
            .due("stop(0, false)", 0).due("stop(1, true)", 0).due("stop(-1, false)", 0)
            .due("rain(false)", 0)
            .dueEach("count(#)", 11, 0, 0, 0, 0, 0, 0);
    }

    private static void stopAsItWas() {
        Calls.onNew("promises 12 and 13: false if it was so, or there is none such")
            .due("stop(0, true)", 0).due("stop(0, false)", 0)
            .due("ride(1, 1, 0, 0, 0)", 0).due("ride(1, 1, 0, 0, 0)", 1)
            .due("stop(0, false)", 0).due("stop(1, false)", 0)
            .due("stop(1, true)", 1).due("stop(1, true)", 0).due("stop(0, false)", 0)
            .dueEach("rideOf(#, 5)", 0, 1, 0)
            .due("stop(1, false)", 1).due("stop(1, false)", 0)
            .due("stop(2, true)", 0).due("stop(-1, true)", 0)
            .due("stop(" + LEAST + ", true)", 0).due("stop(" + MOST + ", true)", 0)
            .dueEach("rideOf(#, 5)", 0, 1, 1)
            .due("rain(false)", 0).due("rain(true)", 1).due("rain(true)", 0)
            .due("rain(false)", 1).due("rain(false)", 0);
    }
}
