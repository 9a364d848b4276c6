/** TWO INNS, REST and DAYS of the Terms, and promises 37 to 42, sentence by sentence. */
public final class EdgesOfInnsAndDaysTest {
    private static final Scene NOWHERE = Scene.withoutRoad();
    private static final Scene BARE = Scene.of("turnpike rain 0;place a");
    private static final Scene ROADLESS = Scene.of("turnpike rain 0;place a;person x at a coins 0");
    /** A road for everybody, then one with a gate that lifts to what x knows, but not in rain. */
    private static final String LINE = ";tune k ab;place a;place b;place c;road a b minutes 9;road c b minutes 9"
        + ";gate b c strict k;person x at a coins 0;person y at b coins 0;knows x k";

    public static void main(String[] args) {
        twoInns();
        rest();
        days();
        draws();
        sells();
        rests();
        firstRest();
        roams();
        roamed();
        roamsTo();
        Sentence.end("EdgesOfInnsAndDaysTest");
    }

    private static void sold(int many, int one, int other, int ones, int others) {
        String what = many + " by " + one + " and " + other;
        BARE.tells(ones, "the one of " + what, x -> x.sells(many, one, other, false));
        BARE.tells(others, "the other of " + what, x -> x.sells(many, one, other, true));
        BARE.tells(others, "the one, exchanged, of " + what, x -> x.sells(many, other, one, false));
    }

    private static void twoInns() {
        Sentence.is("TWO INNS sell for 0 .. 9 to so many: the cheaper one sells to all, both to half (downwards) if alike;"
            + " each has its price less 2 for each.");
        sold(10, 8, 9, 60, 0);
        sold(10, 0, 1, -20, 0);
        sold(10, 9, 9, 35, 35);
        sold(11, 9, 9, 35, 35);
        sold(1, 9, 9, 0, 0);
        sold(2, 9, 9, 7, 7);
        sold(3, 0, 0, -2, -2);
        sold(99, 0, 9, -198, 0);
        sold(99, 8, 9, 594, 0);
        sold(99, 9, 9, 343, 343);
        sold(99, 2, 3, 0, 0);
        sold(99, 1, 2, -99, 0);
        sold(99, 3, 4, 99, 0);
        sold(0, 5, 6, 0, 0);
    }

    private static void rest() {
        Sentence.is("REST: a pair by which neither could have more alone.");
        // To nobody every pair rests. To one, alike, both sell to none: 00, 11, 22, 23, 32, 33, 34, 43. To an even number
        // 22, 33, 44; to an odd one 22, 33, as by 4 a half is too little beside all by 3.
        int[][] due = {{0, 100, 0}, {1, 8, 0}, {2, 3, 22}, {3, 2, 22}, {4, 3, 22}, {5, 2, 22}, {98, 3, 22}, {99, 2, 22}};
        for (int[] each : due) {
            BARE.tells(each[1], "rests of " + each[0], x -> x.rests(each[0]));
            BARE.tells(each[2], "rest of " + each[0], x -> x.rest(each[0]));
            int rests = 0;
            for (int pair = 0; pair < 100; pair++) {
                rests += isRest(each[0], pair / 10, pair % 10) ? 1 : 0;
            }
            Check.due("rests of " + each[0] + " by what both have", rests, each[1]);
        }
    }

    /** By what sells() answers, not by a formula. */
    private static boolean isRest(int many, int one, int other) {
        TuneGates x = BARE.made();
        int ones = x.sells(many, one, other, false);
        int others = x.sells(many, one, other, true);
        for (int price = 0; price <= 9; price++) {
            if (x.sells(many, price, other, false) > ones || x.sells(many, one, price, true) > others) {
                return false;
            }
        }
        return true;
    }

    private static void roam(Scene scene, int who, int seed, int n, int place, int went) {
        scene.tells(place, "roams by " + seed + " in " + n, x -> x.roams(who, seed, n));
        scene.tells(went, "roamed by " + seed + " in " + n, x -> x.roamed(who, seed, n));
    }

    private static void days() {
        Sentence.is("DAYS by a SEED for one: each a DRAW mod 100: below rain it is RAIN that day, else not;");
        // The draws by 65,536 are all 65,536: 36 of a hundred, and of two roads the first, of three the second.
        String three = LINE + ";road a c minutes 9";
        for (int rain : new int[] {0, 35, 36, 37, 100}) {
            Scene scene = Scene.of("turnpike rain " + rain + three.replace("x at a", "x at b"));
            boolean dry = rain <= 36;
            roam(scene, 0, 65536, 1, dry ? 2 : 1, dry ? 1 : 0);
            roam(scene, 0, 65536, 90, 1, dry ? 90 : 0);
            roam(scene.inRain(), 0, 65536, 1, dry ? 2 : 1, dry ? 1 : 0);
        }
        // By 0 the first draw is 74, the second one 5,624.
        Scene wet = Scene.of("turnpike rain 75" + LINE.replace("road a b", "road b a").replace("x at a", "x at b"));
        roam(wet, 0, 0, 1, 0, 1);
        Sentence.is("a DRAW mod roads, as told: if he is at one end of that road, and can PASS, he goes to the other one");
        // The only road is drawn each day.
        Scene one = Scene.of("turnpike rain 0;place a;place b;place c;road a b minutes 1;person x at a coins 0"
            + ";person y at c coins 0");
        roam(one, 0, 65536, 0, 0, 0);
        roam(one, 0, 65536, 1, 1, 1);
        roam(one, 0, 65536, 2, 0, 2);
        roam(one, 0, 12345, 89, 1, 89);
        roam(one, 0, 12345, 90, 0, 90);
        roam(one, 1, 12345, 90, 2, 0);
        // Of two roads the first, of which y is at the other end.
        Scene two = Scene.of("turnpike rain 0" + LINE);
        roam(two, 0, 65536, 1, 1, 1);
        roam(two, 1, 65536, 1, 0, 1);
        // Of three the second: y knows nothing, so the gate stays for him.
        roam(Scene.of("turnpike rain 0" + three), 1, 65536, 90, 1, 0);
    }

    private static void draws() {
        Sentence.is("(SEED becomes (75 times SEED and 74) mod 65,537)");
        // By 873 the first draw is 65,549 mod 65,537, 12: a wrap; by 872 it is 65,474.
        String text = LINE.replace("x at a", "x at b");
        for (int seed : new int[] {0, 1, 872, 873, 874, 65535, 65536}) {
            long first = (75L * seed + 74) % 65537;
            long second = (75L * first + 74) % 65537;
            int wetBelow = (int) (first % 100);
            for (int rain : new int[] {wetBelow, wetBelow + 1}) {
                boolean dry = rain == wetBelow;
                boolean gate = second % 2 == 1;
                int place = !gate ? 0 : dry ? 2 : 1;
                roam(Scene.of("turnpike rain " + rain + text), 0, seed, 1, place, place == 1 ? 0 : 1);
            }
        }
        // Draws from 0: 74, 5624, 28652, 51790, 17641, 12409, 13231, 9344.
        Scene ring = Scene.of("turnpike rain 42;tune k ab;place a;place b;place c;road a b minutes 1;road b c minutes 1"
            + ";road c a minutes 1;gate b c strict k;person x at a coins 0;knows x k");
        int[][] due = {{0, 0}, {2, 1}, {1, 2}, {1, 2}, {1, 2}};
        for (int n = 0; n < due.length; n++) {
            roam(ring, 0, 0, n, due[n][0], due[n][1]);
        }
    }

    private static void sells() {
        Sentence.is("What the one (or other, the other one) has by both's prices (0 .. 9) of so many (0 .. 99).");
        BARE.tells(0, "the least", x -> x.sells(0, 0, 0, false));
        BARE.tells(343, "the most", x -> x.sells(99, 9, 9, true));
        BARE.tells(-198, "the one", x -> x.sells(99, 0, 9, false));
        BARE.tells(0, "the other", x -> x.sells(99, 0, 9, true));
        BARE.inRain().tells(-198, "in rain, too", x -> x.sells(99, 0, 9, false));
        Sentence.is("-1,000: 1 (no ROAD); 2.");
        for (int bad : new int[] {-1, 10, 11, 99, Integer.MAX_VALUE, Integer.MIN_VALUE}) {
            BARE.refusesBy(-1000, 2, "one price " + bad, x -> x.sells(5, bad, 5, false));
            BARE.refusesBy(-1000, 2, "other price " + bad, x -> x.sells(5, 5, bad, true));
            NOWHERE.refusesBy(-1000, 1, "no ROAD comes first " + bad, x -> x.sells(5, bad, 5, true));
        }
        for (int bad : new int[] {-1, 100, 101, Integer.MAX_VALUE, Integer.MIN_VALUE}) {
            BARE.refusesBy(-1000, 2, "many " + bad, x -> x.sells(bad, 5, 5, false));
            NOWHERE.refusesBy(-1000, 1, "no ROAD comes first, many " + bad, x -> x.sells(bad, 5, 5, false));
        }
        NOWHERE.refusesBy(-1000, 1, "without a ROAD", x -> x.sells(5, 5, 5, false));
    }

    private static void rests() {
        Sentence.is("How many RESTS. NONE: 1 (no ROAD); 2.");
        BARE.tells(100, "of nobody", x -> x.rests(0));
        BARE.tells(2, "of the most", x -> x.rests(99));
        for (int bad : new int[] {-1, 100, 101, Integer.MAX_VALUE, Integer.MIN_VALUE}) {
            BARE.refuses(2, "rests of " + bad, x -> x.rests(bad));
            NOWHERE.refuses(1, "no ROAD comes first " + bad, x -> x.rests(bad));
        }
        NOWHERE.refuses(1, "without a ROAD", x -> x.rests(10));
    }

    private static void firstRest() {
        Sentence.is("The first, by the one's price, then the other one's: 10 times and; -2. NONE: likewise.");
        BARE.tells(0, "of nobody", x -> x.rest(0));
        BARE.tells(22, "of the most", x -> x.rest(99));
        for (int bad : new int[] {-1, 100, 101, Integer.MAX_VALUE, Integer.MIN_VALUE}) {
            BARE.refuses(2, "rest of " + bad, x -> x.rest(bad));
            NOWHERE.refuses(1, "no ROAD comes first " + bad, x -> x.rest(bad));
        }
        NOWHERE.refuses(1, "without a ROAD", x -> x.rest(10));
    }

    private static void roams() {
        Sentence.is("n DAYS (0 .. 90) by a SEED (0 .. 65,536) for one: where he is then. NONE: 1; 2; 6 (there is no road).");
        Scene two = Scene.of("turnpike rain 0" + LINE);
        two.tells(0, "no day", x -> x.roams(0, 0, 0));
        two.tells(0, "the most days by the greatest seed", x -> x.roams(0, 65536, 90));
        two.after(x -> x.go(0, 1)).tells(1, "from where he is NOW", x -> x.roams(0, 65536, 90));
        for (int bad : new int[] {-1, 91, 92, Integer.MAX_VALUE, Integer.MIN_VALUE}) {
            two.refuses(2, "days " + bad, x -> x.roams(0, 0, bad));
            ROADLESS.refuses(2, "a number comes ahead of no road " + bad, x -> x.roams(0, 0, bad));
        }
        for (int bad : new int[] {-1, 65537, 65538, Integer.MAX_VALUE, Integer.MIN_VALUE}) {
            two.refuses(2, "seed " + bad, x -> x.roams(0, bad, 0));
            ROADLESS.refuses(2, "a seed comes ahead of no road " + bad, x -> x.roams(0, bad, 0));
        }
        for (int none : Scene.outside(2)) {
            two.refuses(1, "roams of " + none, x -> x.roams(none, 0, 0));
            two.refuses(1, "nobody comes ahead of a number " + none, x -> x.roams(none, -1, -1));
        }
        ROADLESS.refuses(6, "no road", x -> x.roams(0, 0, 0));
        ROADLESS.refuses(6, "no road for the most days", x -> x.roams(0, 65536, 90));
        ROADLESS.refuses(1, "nobody comes ahead of no road", x -> x.roams(1, 0, 0));
        BARE.refuses(1, "without people", x -> x.roams(0, 0, 0));
        NOWHERE.refuses(1, "without a ROAD", x -> x.roams(0, 0, 0));
    }

    private static void roamed() {
        Sentence.is("How many roads he went. NONE: likewise.");
        Scene two = Scene.of("turnpike rain 0" + LINE);
        two.tells(0, "no day", x -> x.roamed(0, 0, 0));
        two.tells(90, "each day", x -> x.roamed(0, 65536, 90));
        two.after(x -> x.roamed(0, 65536, 90)).tells(1, "counted anew", x -> x.roamed(0, 65536, 1));
        for (int bad : new int[] {-1, 91, Integer.MAX_VALUE, Integer.MIN_VALUE}) {
            two.refuses(2, "days " + bad, x -> x.roamed(0, 0, bad));
            ROADLESS.refuses(2, "a number comes ahead of no road " + bad, x -> x.roamed(0, 0, bad));
        }
        for (int bad : new int[] {-1, 65537, Integer.MAX_VALUE, Integer.MIN_VALUE}) {
            two.refuses(2, "seed " + bad, x -> x.roamed(0, bad, 0));
        }
        for (int none : Scene.outside(2)) {
            two.refuses(1, "roamed of " + none, x -> x.roamed(none, 0, 0));
            two.refuses(1, "nobody comes ahead of a number " + none, x -> x.roamed(none, -1, -1));
        }
        ROADLESS.refuses(6, "no road", x -> x.roamed(0, 0, 0));
        BARE.refuses(1, "without people", x -> x.roamed(0, 0, 0));
        NOWHERE.refuses(1, "without a ROAD", x -> x.roamed(0, 0, 0));
    }

    private static void roamsTo() {
        Sentence.is("On which of them (1, 2, ..) he was behind it at a place first; 0 on none. NONE: likewise.");
        Scene two = Scene.of("turnpike rain 0" + LINE);
        two.tells(1, "on the first day", x -> x.roamsTo(0, 1, 65536, 90));
        two.tells(2, "where he was ahead of all days, on the second", x -> x.roamsTo(0, 0, 65536, 90));
        two.tells(0, "on none of one", x -> x.roamsTo(0, 0, 65536, 1));
        two.tells(0, "on none of none", x -> x.roamsTo(0, 0, 65536, 0));
        two.tells(0, "on none of all", x -> x.roamsTo(0, 2, 65536, 90));
        two.after(x -> x.roamsTo(0, 1, 65536, 90)).tells(2, "counted anew", x -> x.roamsTo(0, 0, 65536, 90));
        Scene far = Scene.of("turnpike rain 0;place a;place b;place c;road b c minutes 1;person x at a coins 0");
        far.tells(1, "who goes nowhere is there behind the first", x -> x.roamsTo(0, 0, 65536, 90));
        for (int bad : new int[] {-1, 91, Integer.MAX_VALUE, Integer.MIN_VALUE}) {
            two.refuses(2, "days " + bad, x -> x.roamsTo(0, 0, 0, bad));
            ROADLESS.refuses(2, "a number comes ahead of no road " + bad, x -> x.roamsTo(0, 0, 0, bad));
        }
        for (int bad : new int[] {-1, 65537, Integer.MAX_VALUE, Integer.MIN_VALUE}) {
            two.refuses(2, "seed " + bad, x -> x.roamsTo(0, 0, bad, 0));
        }
        for (int none : Scene.outside(2)) {
            two.refuses(1, "roamsTo of " + none, x -> x.roamsTo(none, 0, 0, 0));
            two.refuses(1, "nobody comes ahead of a number " + none, x -> x.roamsTo(none, 0, -1, -1));
        }
        for (int none : Scene.outside(3)) {
            two.refuses(1, "to " + none, x -> x.roamsTo(0, none, 0, 0));
            two.refuses(1, "nowhere comes ahead of a number " + none, x -> x.roamsTo(0, none, -1, 91));
        }
        ROADLESS.refuses(6, "no road", x -> x.roamsTo(0, 0, 0, 0));
        ROADLESS.refuses(1, "nowhere comes ahead of no road", x -> x.roamsTo(0, 1, 0, 0));
        BARE.refuses(1, "without people", x -> x.roamsTo(0, 0, 0, 0));
        NOWHERE.refuses(1, "without a ROAD", x -> x.roamsTo(0, 0, 0, 0));
    }
}
