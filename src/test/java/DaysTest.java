/** Promises 40 to 42: roams, roamed, roamsTo. */
public final class DaysTest {
    private static final String RING = ";tune k ab;tune l abc;place a;place b;place c;road a b minutes 1;road b c minutes 1"
        + ";road c a minutes 1;gate b c strict k;person x at a coins 0;person y at c coins 0;knows x k";

    public static void main(String[] args) {
        byHand();
        bySeeds();
        refusals();
        Check.end("DaysTest");
    }

    private static void byHand() {
        // Draws from 0: 74, 5624, 28652, 51790, 17641, 12409, 13231, 9344.
        TuneGates x = Check.told("turnpike rain 42" + RING);
        // Day 1: dry, the road c a: to c. Day 2: dry, b c: to b. Day 3: 41, rain, b c: he can't pass.
        // Day 4: rain, c a: he is at no end of it.
        due(x, 0, 0, 0, 0, 0);
        due(x, 0, 0, 1, 2, 1);
        due(x, 0, 0, 2, 1, 2);
        due(x, 0, 0, 3, 1, 2);
        due(x, 0, 0, 4, 1, 2);
        int[] first = {0, 2, 1};
        for (int p = 0; p < 3; p++) {
            Check.fine(x, "roamsTo " + p, x.roamsTo(0, p, 0, 4), first[p]);
            Check.fine(x, "roamsTo by no day " + p, x.roamsTo(0, p, 0, 0), 0);
        }
        Check.fine(x, "roamsTo by two days", x.roamsTo(0, 1, 0, 2), 2);
        Check.fine(x, "roamsTo by one day", x.roamsTo(0, 1, 0, 1), 0);
        Check.due("he is where he was", x.person(0, 0), 0);
        Check.due("no minutes", x.person(0, 4), 0);
        Check.due("no rain", x.size(9), 0);
        TuneGates alone = Check.told("turnpike rain 0;place a;place b;place c;road b c minutes 1;person x at a coins 0");
        Check.fine(alone, "behind the first day he is still there", alone.roamsTo(0, 0, 5, 90), 1);
        Check.fine(alone, "he never is there", alone.roamsTo(0, 1, 5, 90), 0);
        x.rain(true);
        due(x, 0, 0, 2, 1, 2);
        TuneGates drier = Check.told("turnpike rain 41" + RING);
        due(drier, 0, 0, 3, 2, 3);
        due(drier, 0, 0, 4, 0, 4);
        Check.fine(drier, "roamsTo, the first of two times", drier.roamsTo(0, 2, 0, 4), 1);
        due(drier, 1, 0, 3, 0, 1);
    }

    private static void due(TuneGates x, int who, int seed, int n, int place, int went) {
        Check.fine(x, "roams " + n, x.roams(who, seed, n), place);
        Check.fine(x, "roamed " + n, x.roamed(who, seed, n), went);
    }

    private static void bySeeds() {
        int[][] ends = {{0, 1}, {1, 2}, {2, 0}};
        for (int rain : new int[] {0, 40, 100}) {
            TuneGates x = Check.told("turnpike rain " + rain + RING);
            for (int first : new int[] {0, 1, 777, 65535, 65536}) {
                long seed = first;
                int place = 0;
                int went = 0;
                for (int day = 1; day <= 90; day++) {
                    seed = (75 * seed + 74) % 65537;
                    boolean rains = seed % 100 < rain;
                    seed = (75 * seed + 74) % 65537;
                    int r = (int) (seed % 3);
                    boolean at = place == ends[r][0] || place == ends[r][1];
                    if (at && (r != 1 || !rains)) {
                        place = ends[r][0] + ends[r][1] - place;
                        went++;
                    }
                    if (day % 45 == 0) {
                        due(x, 0, first, day, place, went);
                    }
                }
            }
        }
    }

    private static void refusals() {
        TuneGates x = Check.told("turnpike rain 0" + RING);
        for (int who : new int[] {-1, 2}) {
            Check.refused(x, "roams of nobody", x.roams(who, -1, -1), 1);
            Check.refused(x, "roamed of nobody", x.roamed(who, -1, -1), 1);
            Check.refused(x, "roamsTo of nobody", x.roamsTo(who, 0, -1, -1), 1);
        }
        Check.refused(x, "roamsTo nowhere", x.roamsTo(0, 3, -1, -1), 1);
        Check.refused(x, "roamsTo nowhere", x.roamsTo(0, -1, 0, 0), 1);
        int[][] bad = {{-1, 0}, {65537, 0}, {0, -1}, {0, 91}};
        for (int[] each : bad) {
            Check.refused(x, "roams", x.roams(0, each[0], each[1]), 2);
            Check.refused(x, "roamed", x.roamed(0, each[0], each[1]), 2);
            Check.refused(x, "roamsTo", x.roamsTo(0, 0, each[0], each[1]), 2);
        }
        TuneGates bare = Check.told("turnpike rain 0;place a;person x at a coins 0");
        Check.refused(bare, "roams without a road", bare.roams(0, 0, 0), 6);
        Check.refused(bare, "roamed without a road", bare.roamed(0, 0, 90), 6);
        Check.refused(bare, "roamsTo without a road", bare.roamsTo(0, 0, 0, 1), 6);
        Check.refused(bare, "a number comes ahead of it", bare.roams(0, 0, 91), 2);
        Check.refused(bare, "nobody comes ahead of it", bare.roamsTo(0, 1, 0, 91), 1);
        TuneGates none = new TuneGates();
        Check.refused(none, "roams without a ROAD", none.roams(0, 0, 0), 1);
    }
}
