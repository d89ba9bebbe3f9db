/** Parks from which the runs of several tests go on. */
final class Scenes {
    private Scenes() {
    }

    /** TICK 0; each of the windows 1 to 40 of ride 0 is full, by groups 0 to 19; group 20, of one, has no time. */
    static Calls withFortyFullWindows(String title) {
        Calls calls = Calls.onNew(title).due("ride(1, 1, 1, 4, 0)", 0).groups(0, 21, 1);
        for (int i = 0; i < 20; i++) {
            calls.due("take(" + i + ", 0)", 2 * i + 1).due("take(" + i + ", 0)", 2 * i + 2);
        }
        return calls;
    }

    /** TICK 5, the first of window 1; groups of so many people are back at ride 0, in the order of their numbers. */
    static Calls withBack(String title, String ride, int... many) {
        Calls calls = Calls.onNew(title).due(ride, 0);
        for (int i = 0; i < many.length; i++) {
            calls.due("group(" + many[i] + ")", i).due("take(" + i + ", 0)", 1);
        }
        return calls.due("ticks(5)", 0).dueInOrder("come(#, 0)", 0, many.length - 1, 0);
    }
}
