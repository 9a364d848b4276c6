/** Promises 37 to 39: sells, rests, rest. */
public final class TwoInnsTest {
    public static void main(String[] args) {
        sells();
        rests();
        refusals();
        Check.end("TwoInnsTest");
    }

    private static TuneGates told() {
        return Check.told("turnpike rain 0;place a");
    }

    private static void sells() {
        TuneGates x = told();
        Check.fine(x, "the cheaper one", x.sells(10, 5, 7, false), 30);
        Check.fine(x, "the dearer one", x.sells(10, 5, 7, true), 0);
        Check.fine(x, "the cheaper other one", x.sells(10, 7, 5, true), 30);
        Check.fine(x, "the dearer one", x.sells(10, 7, 5, false), 0);
        Check.fine(x, "both", x.sells(11, 9, 9, false), 35);
        Check.fine(x, "both, the other one", x.sells(11, 9, 9, true), 35);
        Check.fine(x, "for nothing", x.sells(99, 0, 9, false), -198);
        Check.fine(x, "half for nothing", x.sells(99, 0, 0, true), -98);
        Check.fine(x, "to nobody", x.sells(0, 9, 9, true), 0);
        Check.fine(x, "to one", x.sells(1, 9, 9, true), 0);
        Check.fine(x, "at its cost", x.sells(50, 2, 3, false), 0);
    }

    private static int has(int many, int own, int other) {
        if (own > other) {
            return 0;
        }
        return (own < other ? many : many / 2) * (own - 2);
    }

    private static boolean isRest(int many, int one, int other) {
        boolean rest = true;
        for (int else1 = 0; else1 <= 9; else1++) {
            rest &= has(many, else1, other) <= has(many, one, other);
            rest &= has(many, else1, one) <= has(many, other, one);
        }
        return rest;
    }

    private static void rests() {
        TuneGates x = told();
        for (int many = 0; many <= 99; many++) {
            int rests = 0;
            int first = -2;
            for (int pair = 99; pair >= 0; pair--) {
                if (isRest(many, pair / 10, pair % 10)) {
                    rests++;
                    first = pair;
                }
            }
            Check.fine(x, "rests of " + many, x.rests(many), rests);
            Check.fine(x, "rest of " + many, x.rest(many), first);
        }
        Check.fine(x, "rests of nobody", x.rests(0), 100);
        Check.fine(x, "rest of nobody", x.rest(0), 0);
        Check.fine(x, "rests of ten", x.rests(10), 3);
        Check.fine(x, "rest of ten", x.rest(10), 22);
    }

    private static void refusals() {
        TuneGates x = told();
        int[][] bad = {{-1, 0, 0}, {100, 0, 0}, {5, -1, 0}, {5, 10, 0}, {5, 0, -1}, {5, 0, 10}};
        for (int[] each : bad) {
            Check.due("sells", x.sells(each[0], each[1], each[2], true), -1000);
            Check.due("trouble of sells", x.trouble(), 2);
        }
        Check.refused(x, "rests", x.rests(-1), 2);
        Check.refused(x, "rests", x.rests(100), 2);
        Check.refused(x, "rest", x.rest(-1), 2);
        Check.refused(x, "rest", x.rest(100), 2);
        TuneGates none = new TuneGates();
        Check.due("sells without a road", none.sells(-5, 50, 50, true), -1000);
        Check.due("trouble of it", none.trouble(), 1);
        Check.refused(none, "rests without a road", none.rests(100), 1);
        Check.refused(none, "rest without a road", none.rest(5), 1);
    }
}
