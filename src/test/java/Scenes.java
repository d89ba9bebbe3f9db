/** Parks from which the runs of several tests go on. */
final class Scenes {
    private Scenes() {
    }

    /** TICK 0; each of the windows 1 to 40 of ride 0 is full, by groups 0 to 19; group 20, of one, has no time. */
    static Calls withFortyFullWindows(String title) {
        return withFortyFullWindows(Calls.onNew(title));
    }

    static Calls withFortyFullWindows(Calls calls) {
        calls.due("ride(1, 1, 1, 4, 0)", 0).groups(0, 21, 1);
        for (int i = 0; i < 20; i++) {
            calls.due("take(" + i + ", 0)", 2 * i + 1).due("take(" + i + ", 0)", 2 * i + 2);
        }
        return calls;
    }

    /** TICK 5, the first of window 1; groups of so many people are back at ride 0, in the order of their numbers. */
    static Calls withBack(String title, String ride, int... many) {
        return withBack(Calls.onNew(title), ride, many);
    }

    static Calls withBack(Calls calls, String ride, int... many) {
        calls.due(ride, 0);
        for (int i = 0; i < many.length; i++) {
            calls.due("group(" + many[i] + ")", i).due("take(" + i + ", 0)", 1);
        }
        return calls.due("ticks(5)", 0).dueInOrder("come(#, 0)", 0, many.length - 1, 0);
    }

    /** TICK 10; ride 0, of window length 5, is stopped and has no room; group 0, of two, walks with an any and no time. */
    static Calls withAnAny(Calls calls) {
        return calls.due("ride(6, 1, 2, 0, 0)", 0).due("group(2)", 0)
            .due("take(0, 0)", 1)
            .due("part(0, 0, 0)", 1).due("stop(0, true)", 1)
            .due("ticks(10)", 0);
    }

    /** TICK 10, the first of window 1 of ride 0; groups of 1 to 5 people, by numbers: back there, on it, standing there, gone, walking. */
    static Calls withEachDoing(Calls calls) {
        return calls.due("ride(8, 2, 2, 0, 0)", 0).dueEach("group(#)", 1, 0, 1, 2, 3, 4)
            .due("take(0, 0)", 1)
            .due("ticks(9)", 0)
            .due("stand(1, 0)", 0)
            .due("ticks(1)", 2)
            .due("come(0, 0)", 0).due("stand(2, 0)", 0).due("go(3)", 0)
            .dueEach("groupOf(#, 1)", 0, 2, 3, 1, 4, 0);
    }
}
