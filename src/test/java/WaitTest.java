import java.util.Random;

/**
 * "waits foretold that are never too short": in parks by fixed seeds, nobody who stands is ON later than foretold,
 * whoever comes BACK or stands behind meanwhile; and where the whole PART is taken at each ROUND, nobody is ON earlier.
 */
public final class WaitTest {
    private static final int RUNS = 400;
    private static final int STANDING = 1;
    private static final int ON = 3;
    private static final int WINDOW = 5;

    private static int foretold = 0;
    private static int wrong = 0;

    public static void main(String[] args) {
        for (int seed = 0; seed < RUNS; seed++) {
            neverTooShort(new Random(seed), seed);
            justSoLong(new Random(seed), seed);
        }
        System.out.println(foretold + " waits were foretold, " + wrong + " of them wrong");
        if (wrong != 0 || foretold == 0) {
            System.exit(1);
        }
    }

    private static void neverTooShort(Random random, int seed) {
        ParkRows park = new ParkRows();
        int seats = 8 + random.nextInt(8);
        park.ride(seats, 1, random.nextInt(seats - 7), 0, random.nextInt(2));
        int[] waits = standing(park, random);
        backInWindowOne(park, random, waits.length);
        for (int round = 1; round <= waits.length; round++) {
            park.ticks(1);
            for (int group = 0; group < waits.length; group++) {
                if (round >= waits[group] && park.groupOf(group, 6) == 0) {
                    isWrong("seed " + seed + ": group " + group + " is not yet ON, " + waits[group] + " was foretold");
                }
            }
            // One who comes late may not make anybody wait longer.
            park.stand(park.group(1 + random.nextInt(8)), 0);
        }
    }

    /** Groups that stand where no round begins yet, and what is foretold of each. */
    private static int[] standing(ParkRows park, Random random) {
        int[] waits = new int[4 + random.nextInt(12)];
        for (int group = 0; group < waits.length; group++) {
            park.group(1 + random.nextInt(8));
            park.stand(group, 0);
        }
        for (int group = 0; group < waits.length; group++) {
            waits[group] = park.wait(group);
            foretold++;
            if (waits[group] < 1) {
                isWrong("wait(" + group + ") answered " + waits[group]);
            }
        }
        return waits;
    }

    /** Some groups more are back at the ride, which is stopped till then, so that nobody who stands is ON meanwhile. */
    private static void backInWindowOne(ParkRows park, Random random, int first) {
        park.stop(0, true);
        int behind = first + random.nextInt(12);
        for (int group = first; group < behind; group++) {
            park.group(1 + random.nextInt(8));
            park.take(group, 0);
        }
        park.ticks(WINDOW);
        for (int group = first; group < behind; group++) {
            park.come(group, 0);
        }
        park.stop(0, false);
    }

    /** As long as enough groups of one are back, the whole PART is taken: who is told 1 is ON then, and nobody else who stands. */
    private static void justSoLong(Random random, int seed) {
        ParkRows park = new ParkRows();
        int part = 1 + random.nextInt(3);
        int first = WINDOW * part;
        park.ride(8 + part, 1, part, 0, 0);
        for (int group = 0; group < first; group++) {
            park.group(1);
            park.take(group, 0);
        }
        park.ticks(WINDOW);
        for (int group = 0; group < first; group++) {
            park.come(group, 0);
        }
        int[] waits = new int[first + 12];
        for (int group = first; group < waits.length; group++) {
            park.group(1 + random.nextInt(8));
            park.stand(group, 0);
        }
        for (int round = 0; round < WINDOW && park.rideOf(0, 7) >= part; round++) {
            for (int group = first; group < waits.length; group++) {
                waits[group] = park.groupOf(group, 1) == STANDING ? park.wait(group) : 0;
            }
            park.ticks(1);
            for (int group = first; group < waits.length; group++) {
                heldAgainst(waits[group], park.groupOf(group, 1) == ON, "seed " + seed + ": group " + group);
            }
        }
    }

    private static void heldAgainst(int wait, boolean on, String who) {
        foretold += wait == 0 ? 0 : 1;
        if (on != (wait == 1)) {
            isWrong(who + " is " + (on ? "" : "not ") + "ON, " + wait + " was foretold");
        }
    }

    private static void isWrong(String what) {
        wrong++;
        System.out.println(what);
    }
}
