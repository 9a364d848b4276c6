/** STRANGER and ASK of the Terms, and promises 31 to 36, sentence by sentence. */
public final class EdgesOfStrangerTest {
    private static final Scene NOWHERE = Scene.withoutRoad();
    private static final Scene BARE = Scene.of("turnpike rain 0;place a");
    /** Two tunes of the same notes; gates of k: a b, c d; of l: b c, b d; a road d e without one; f alone. */
    private static final String ROADS = "turnpike rain 0;tune k ab;tune l ab;tune m ab;place a;place b;place c;place d;place e"
        + ";place f;road a b minutes 1;road b c minutes 1;road c d minutes 1;road b d minutes 1;road d e minutes 1"
        + ";gate a b deaf k;gate b c forgot l;gate c d strict k;gate b d kind l";

    public static void main(String[] args) {
        stranger();
        nothingHeard();
        askFirst();
        rows();
        could();
        surely();
        ask();
        askLeaves();
        suspect();
        Sentence.end("EdgesOfStrangerTest");
    }

    private static Scene heard(String tunes) {
        StringBuilder text = new StringBuilder(ROADS);
        for (int i = 0; i < tunes.length(); i++) {
            text.append(";heard ").append(tunes.charAt(i));
        }
        return Scene.of(text.toString());
    }

    private static void found(Scene scene, int rows, int ask, int leaves, int... could) {
        scene.tells(rows, "rows", x -> x.rows());
        scene.tells(ask, "ask", x -> x.ask());
        scene.tells(leaves, "askLeaves", x -> x.askLeaves());
        for (int k = 0; k < could.length; k++) {
            int at = k;
            int one = Integer.bitCount(could[k]) == 1 ? Integer.numberOfTrailingZeros(could[k]) : -2;
            scene.tells(could[k], "could " + k, x -> x.could(at));
            scene.tells(one, "surely " + k, x -> x.surely(at));
        }
        scene.refuses(1, "could behind the last", x -> x.could(could.length));
        scene.refuses(1, "surely behind the last", x -> x.surely(could.length));
    }

    private static void stranger() {
        Sentence.is("STRANGER: rows of places, each a road with a gate of the tune heard from the one ahead (both ways),"
            + " tune by tune: all that fit");
        // a b, b a, c d, d c
        found(heard("k"), 4, 0, 1, 15, 15);
        // b c, c b, b d, d b
        found(heard("l"), 4, 0, 2, 14, 14);
        // a b c, a b d, c d b, d c b
        found(heard("kl"), 4, 0, 2, 13, 14, 14);
        // c b a, d b a, b c d, b d c
        found(heard("lk"), 4, 0, 2, 14, 14, 13);
        found(heard("kl").inRain(), 4, 0, 2, 13, 14, 14);
        // forth and back on each of two roads
        found(heard("kkkkk"), 4, 0, 1, 15, 15, 15, 15, 15, 15);
        // a tune of no gate, though of the same notes
        found(heard("m"), 0, -2, -2, 0, 0);
        found(heard("kmk"), 0, -2, -2, 0, 0, 0, 0);
    }

    private static void nothingHeard() {
        Sentence.is("(with nothing heard: each place alone)");
        found(heard(""), 6, 0, 1, 63);
        found(BARE, 1, 0, 1, 1);
        found(Scene.of("turnpike rain 0;place a;place b;place c;place d;place e;place f;place g"), 7, 0, 1, 127);
    }

    private static void askFirst() {
        Sentence.is("ASK: the place in a row (its number, from 0 on) by which, it being told, at most fewest rows are left,"
            + " the first such.");
        String fork = "turnpike rain 0;tune k ab;tune l ab;place a;place b;place c;place d;place e;road a b minutes 1"
            + ";road b c minutes 1;road b d minutes 1;road b e minutes 1;gate a b deaf k;gate b c deaf l;gate b d deaf l"
            + ";gate b e deaf l";
        // a b c, a b d, a b e: the last place tells all
        found(Scene.of(fork + ";heard k;heard l"), 3, 2, 1, 1, 2, 28);
        // c b a, d b a, e b a: the first one does
        found(Scene.of(fork + ";heard l;heard k"), 3, 0, 1, 28, 2, 1);
        // from one of three by b to one of three: the first and the last are alike, so the first
        found(Scene.of(fork + ";heard l;heard l"), 9 + 3, 0, 3, 30, 30, 30);
        // a b e, a c e, a d e: the one between tells all
        found(Scene.of("turnpike rain 0;tune k ab;tune l ab;place a;place b;place c;place d;place e;road a b minutes 1"
            + ";road a c minutes 1;road a d minutes 1;road b e minutes 1;road c e minutes 1;road d e minutes 1"
            + ";gate a b deaf k;gate a c deaf k;gate a d deaf k;gate b e deaf l;gate c e deaf l;gate d e deaf l"
            + ";heard k;heard l"), 3, 1, 1, 1, 14, 16);
        // a b, and back: a b a b, b a b a
        found(Scene.of(fork + ";heard k;heard k;heard k"), 2, 0, 1, 3, 3, 3, 3);
        // a b c b a, ..: the middle one tells all
        found(Scene.of(fork + ";heard k;heard l;heard l;heard k"), 3, 2, 1, 1, 2, 28, 2, 1);
    }

    private static void rows() {
        Sentence.is("STRANGER: how many rows. NONE: 1 (no ROAD).");
        // All ten roads have a gate of one tune: the most rows there are by five heard.
        StringBuilder text = new StringBuilder("turnpike rain 0;tune k ab;place a;place b;place c;place d;place e");
        for (String ends : "a b,a c,a d,a e,b c,b d,b e,c d,c e,d e".split(",")) {
            text.append(";road ").append(ends).append(" minutes 1;gate ").append(ends).append(" deaf k");
        }
        text.append(";heard k;heard k;heard k;heard k;heard k");
        found(Scene.of(text.toString()), 5 * 4 * 4 * 4 * 4 * 4, 0, 1024, 31, 31, 31, 31, 31, 31);
        Scene gateless = Scene.of("turnpike rain 0;tune k ab;place a;place b;road a b minutes 1;heard k");
        found(gateless, 0, -2, -2, 0, 0);
        NOWHERE.refuses(1, "without a ROAD", x -> x.rows());
        heard("kkk").after(x -> Check.read(x, "turnpike rain 0;place a;place b")).tells(2, "of the ROAD from now on",
            x -> x.rows());
        found(heard("kl").after(x -> Check.read(x, ROADS + ";heard k;heard l")), 4, 0, 2, 13, 14, 14);
        found(heard("kkkkk").after(x -> Check.read(x, ROADS + ";heard m;heard m")), 0, -2, -2, 0, 0, 0);
        // Seven places, of which the first and the last have a gate between them.
        Scene seven = Scene.of("turnpike rain 0;tune k ab;place a;place b;place c;place d;place e;place f;place g"
            + ";road a g minutes 1;gate g a deaf k;heard k;heard k");
        found(seven, 2, 0, 1, 65, 65, 65);
    }

    private static void could() {
        Sentence.is("Places that the k-th place of a row (0 .. as many as were heard) may be, as bits. NONE: 1.");
        for (int many = 0; many <= 5; many++) {
            Scene scene = heard("kkkkk".substring(0, many));
            int last = many;
            scene.tells(many == 0 ? 63 : 15, "the last of " + many, x -> x.could(last));
            for (int none : Scene.outside(many + 1)) {
                scene.refuses(1, "could " + none + " of " + many, x -> x.could(none));
            }
        }
        NOWHERE.refuses(1, "without a ROAD", x -> x.could(0));
    }

    private static void surely() {
        Sentence.is("The one in all; -2. NONE: 1.");
        Scene one = Scene.of("turnpike rain 0;tune k ab;tune l ab;place a;place b;place c;road a b minutes 1"
            + ";road b c minutes 1;gate a b deaf k;gate b c deaf l;heard k;heard l");
        int[] places = {0, 1, 2};
        for (int k = 0; k < 3; k++) {
            int at = k;
            one.tells(places[k], "surely " + k, x -> x.surely(at));
        }
        heard("k").tells(-2, "several", x -> x.surely(0));
        heard("m").tells(-2, "no rows", x -> x.surely(0));
        heard("").tells(-2, "nothing heard", x -> x.surely(0));
        BARE.tells(0, "one place", x -> x.surely(0));
        for (int none : Scene.outside(3)) {
            one.refuses(1, "surely " + none, x -> x.surely(none));
        }
        heard("kkkkk").refuses(1, "behind the last of the most", x -> x.surely(6));
        NOWHERE.refuses(1, "without a ROAD", x -> x.surely(0));
    }

    private static void ask() {
        Sentence.is("ASK; -2 there are no rows. NONE: 1 (no ROAD).");
        heard("m").tells(-2, "no rows", x -> x.ask());
        BARE.tells(0, "one row", x -> x.ask());
        NOWHERE.refuses(1, "without a ROAD", x -> x.ask());
    }

    private static void askLeaves() {
        Sentence.is("How many are left at most then; -2 likewise. NONE: 1 (no ROAD).");
        heard("l").tells(2, "two by b", x -> x.askLeaves());
        heard("m").tells(-2, "no rows", x -> x.askLeaves());
        BARE.tells(1, "one row", x -> x.askLeaves());
        NOWHERE.refuses(1, "without a ROAD", x -> x.askLeaves());
    }

    private static void suspect() {
        Sentence.is("The first person who by what he knows (not forged) knows all that was heard; -2. NONE: 1 (no ROAD).");
        String people = ROADS + ";inn a forges l price 0;inn a sells l price 0;person u at a coins 0;person v at a coins 0"
            + ";person w at a coins 0;person x at a coins 0;knows u k;knows w k;knows w l;knows x k;knows x l";
        Scene both = Scene.of(people + ";heard k;heard l;heard k");
        both.tells(2, "the first of two", x -> x.suspect());
        both.after(x -> x.buy(0, 0)).tells(2, "not by a forged one", x -> x.suspect());
        both.after(x -> x.buy(0, 1)).tells(0, "by what he bought", x -> x.suspect());
        both.after(x -> x.buy(0, 1)).after(TuneGates::undo).tells(2, "not by what is undone", x -> x.suspect());
        both.after(x -> x.teach(2, 0, 1)).tells(0, "by what he was taught", x -> x.suspect());
        Scene.of(people + ";heard l;heard l;heard l;heard l;heard l").tells(2, "one tune", x -> x.suspect());
        both.after(x -> x.buy(1, 1)).tells(2, "not by one of two", x -> x.suspect());
        Scene.of(people + ";heard l").after(x -> x.buy(1, 1)).tells(1, "who knows that one alone", x -> x.suspect());
        Scene.of(people).tells(0, "nothing heard", x -> x.suspect());
        Scene.of(ROADS + ";person u at a coins 0").tells(0, "nothing heard, nothing known", x -> x.suspect());
        Scene.of(people + ";heard m").tells(-2, "nobody", x -> x.suspect());
        Scene.of(people + ";heard k;heard l;heard m").tells(-2, "nobody all", x -> x.suspect());
        Scene.of(ROADS).tells(-2, "without people", x -> x.suspect());
        NOWHERE.refuses(1, "without a ROAD", x -> x.suspect());
    }
}
