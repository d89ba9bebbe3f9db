import java.util.Random;

/** All promises: runs of calls drawn by a fixed seed, each answer held against Model's. */
public final class RandomTest {
    private static final int RUNS = 1500;
    private static final int CALLS = 512;
    private static final String[] NAMES = {
        "take", "take", "take", "take", "free", "give", "come", "come", "come", "come", "stand", "stand", "stand", "leave", "go",
        "stop", "rain", "ticks", "ticks", "ticks", "ticks", "wait", "wait", "part", "walk", "ride", "group",
        "groupOf", "groupOf", "groupOf", "time", "time", "rideOf", "rideOf", "rideOf", "window", "window", "row", "row", "count", "count"};

    private final Random random;
    private final ParkRows park = new ParkRows();
    private final Model model = new Model();
    private final StringBuilder told = new StringBuilder();
    private int rides;
    private int groups;
    private int tick;
    private final int longest;

    private RandomTest(long seed) {
        random = new Random(seed);
        longest = random.nextInt(4) == 0 ? 120 : 7;
    }

    public static void main(String[] args) {
        for (int seed = 0; seed < RUNS; seed++) {
            String wrong = new RandomTest(seed).run();
            if (wrong != null) {
                System.out.println("seed " + seed + ":\n" + wrong);
                System.exit(1);
            }
        }
        System.out.println(RUNS + " runs of " + CALLS + " calls answered as the model does");
    }

    private String run() {
        int firstRides = 1 + random.nextInt(3);
        int firstGroups = random.nextInt(6) == 0 ? 60 : 2 + random.nextInt(12);
        boolean late = random.nextInt(6) == 0;
        for (int i = 0; i < CALLS; i++) {
            String name = i < firstRides ? "ride" : i < firstRides + firstGroups ? "group" : NAMES[random.nextInt(NAMES.length)];
            if ((name.equals("ride") || name.equals("group")) && i > 40 && random.nextInt(6) != 0) {
                name = "ticks";
            }
            int[] arguments = arguments(name);
            if (late && i == firstRides + firstGroups) {
                // Some runs are near the last TICK, and go past it.
                name = "ticks";
                arguments = new int[] {5000 - random.nextInt(300)};
            }
            int want = model.answer(name, arguments);
            int got = call(name, arguments);
            told.append(name).append(java.util.Arrays.toString(arguments)).append(" = ").append(got).append('\n');
            if (got != want) {
                return told + "due is " + want;
            }
        }
        return null;
    }

    private int in(int least, int most) {
        int odd = random.nextInt(60);
        if (odd == 0) return least - 1;
        if (odd == 1) return most + 1;
        if (odd == 2) return Integer.MIN_VALUE + random.nextInt(2);
        if (odd == 3) return Integer.MAX_VALUE - random.nextInt(2);
        return least + random.nextInt(most - least + 1);
    }

    private int ride() { return in(0, Math.max(0, rides - 1)); }
    private int group() { return in(0, Math.max(0, groups - 1)); }
    private int flag() { return random.nextInt(2); }

    private int[] arguments(String name) {
        switch (name) {
            case "ride": {
                int seats = random.nextBoolean() ? in(1, 8) : in(1, 40);
                int part = in(0, Math.max(0, Math.min(40, seats)));
                return new int[] {seats, longest > 100 ? in(1, 20) : in(1, 3), part, in(0, random.nextBoolean() ? 6 : 99), in(0, 3)};
            }
            case "group": return new int[] {random.nextBoolean() ? in(1, 2) : in(1, 8)};
            case "walk": return new int[] {ride(), ride(), in(0, 50)};
            case "part": return new int[] {ride(), in(0, random.nextBoolean() ? 3 : 40), in(0, random.nextBoolean() ? 6 : 99)};
            case "take": case "free": case "come": case "stand": return new int[] {group(), ride()};
            case "give": return new int[] {group(), in(0, 1)};
            case "leave": case "go": case "wait": return new int[] {group()};
            case "stop": return new int[] {ride(), flag()};
            case "rain": return new int[] {flag()};
            case "ticks": return new int[] {in(1, longest)};
            case "groupOf": return new int[] {group(), in(0, 8)};
            case "time": return new int[] {group(), in(0, 1), in(0, 1)};
            case "rideOf": return new int[] {ride(), in(0, 12)};
            case "window": return new int[] {ride(), nearWindow(), in(0, 1)};
            case "row": return new int[] {ride(), flag(), in(0, 5)};
            default: return new int[] {in(0, 16)};
        }
    }

    private int nearWindow() {
        int now = tick / (5 * (1 + random.nextInt(3)));
        return in(Math.max(0, now - 3), now + 5);
    }

    private int call(String name, int[] a) {
        int got = answer(name, a);
        if (name.equals("ride") && got >= 0) rides++;
        if (name.equals("group") && got >= 0) groups++;
        if (name.equals("ticks") && got >= 0) tick += a[0];
        return got;
    }

    private int answer(String name, int[] a) {
        switch (name) {
            case "ride": return park.ride(a[0], a[1], a[2], a[3], a[4]);
            case "group": return park.group(a[0]);
            case "walk": return park.walk(a[0], a[1], a[2]);
            case "part": return park.part(a[0], a[1], a[2]);
            case "take": return park.take(a[0], a[1]);
            case "free": return park.free(a[0], a[1]);
            case "give": return park.give(a[0], a[1]);
            case "come": return park.come(a[0], a[1]);
            case "stand": return park.stand(a[0], a[1]);
            case "leave": return park.leave(a[0]);
            case "go": return park.go(a[0]);
            case "stop": return park.stop(a[0], a[1] == 1) ? 1 : 0;
            case "rain": return park.rain(a[0] == 1) ? 1 : 0;
            case "ticks": return park.ticks(a[0]);
            case "wait": return park.wait(a[0]);
            case "groupOf": return park.groupOf(a[0], a[1]);
            case "time": return park.time(a[0], a[1], a[2]);
            case "rideOf": return park.rideOf(a[0], a[1]);
            case "window": return park.window(a[0], a[1], a[2]);
            case "row": return park.row(a[0], a[1] == 1, a[2]);
            default: return park.count(a[0]);
        }
    }
}
