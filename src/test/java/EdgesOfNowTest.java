/** Terms II but for WAY, and promises 6 to 15, sentence by sentence. */
public final class EdgesOfNowTest {
    /** The gates' tune is k; from a goes a road to b strict, c kind, d deaf, e forgot, f without a gate, to g none. */
    private static final String STAR = "turnpike rain 30;tune k bbb;tune l bbc;tune m bcc;tune n bb;tune o bbbb;tune p ccc"
        + ";place a;place b;place c;place d;place e;place f;place g;road a b minutes 1;road c a minutes 99;road a d minutes 2"
        + ";road a e minutes 3;road a f minutes 4;gate b a strict k;gate a c kind k;gate a d deaf k;gate a e forgot k";
    private static final Scene ROADS = Scene.of(STAR);
    private static final Scene NOWHERE = Scene.withoutRoad();
    private static final Scene BARE = Scene.of("turnpike rain 0;place a");

    public static void main(String[] args) {
        forgedAndRain();
        kinds();
        pass();
        length();
        sung();
        road();
        gate();
        inn();
        person();
        lifts();
        passes();
        opens();
        likest();
        Sentence.end("EdgesOfNowTest");
    }

    /** The last note of a tune: as it is, forged, in rain, forged in rain. */
    private static void last(String notes, int plain, int forged, int wet, int wetForged) {
        Scene scene = Scene.of("turnpike rain 0;place a;tune k " + notes);
        int i = notes.length() - 1;
        scene.tells(plain, notes, x -> x.sung(0, i, false));
        scene.tells(forged, notes + " forged", x -> x.sung(0, i, true));
        scene.inRain().tells(wet, notes + " in rain", x -> x.sung(0, i, false));
        scene.inRain().tells(wetForged, notes + " forged, in rain", x -> x.sung(0, i, true));
        for (int early = 0; early < i; early++) {
            int at = early;
            for (Scene each : new Scene[] {scene, scene.inRain()}) {
                each.tells(notes.charAt(at) - 'a', notes + " ahead of the last", x -> x.sung(0, at, false));
                each.tells(notes.charAt(at) - 'a', notes + " forged, ahead of the last", x -> x.sung(0, at, true));
            }
        }
    }

    private static void forgedAndRain() {
        Sentence.is("A FORGED tune is the tune with its last note one higher (of g one lower).");
        last("af", 5, 6, 4, 5);
        last("ag", 6, 5, 5, 4);
        last("gggggggg", 6, 5, 5, 4);
        Sentence.is("In RAIN the last note of all that is sung is one lower (a stays).");
        last("gb", 1, 2, 0, 1);
        last("ga", 0, 1, 0, 0);
        last("aaaaaaaa", 0, 1, 0, 0);
    }

    /** For each tune two signs: as it is, then forged. */
    private static void lift(Scene scene, int q, String due) {
        for (int i = 0; i < due.length(); i++) {
            int t = i / 2;
            boolean forged = i % 2 == 1;
            scene.tells(due.charAt(i) - '0', "lifts to " + q + " by " + i, x -> x.lifts(0, q, t, forged));
            scene.tells(due.charAt(i) - '0', "lifts from " + q + " by " + i, x -> x.lifts(q, 0, t, forged));
        }
    }

    private static void kinds() {
        Sentence.is("a strict one if it is its tune, note by note;");
        lift(ROADS, 1, "100000000000");
        lift(ROADS.inRain(), 1, "011000000000");
        Sentence.is("a kind one if it is as long and no more than one note is unlike;");
        lift(ROADS, 2, "111100000000");
        lift(ROADS.inRain(), 2, "111110000000");
        Sentence.is("a deaf one if it is as long;");
        lift(ROADS, 3, "111111000011");
        lift(ROADS.inRain(), 3, "111111000011");
        Sentence.is("one that forgot to anything.");
        lift(ROADS, 4, "111111111111");
        lift(ROADS.inRain(), 4, "111111111111");
    }

    private static void passed(Scene scene, int who, String due) {
        for (int q = 1; q <= due.length(); q++) {
            int to = q;
            scene.tells(due.charAt(q - 1) - '0', "passes to " + q, x -> x.passes(who, 0, to));
            scene.tells(due.charAt(q - 1) - '0', "passes from " + q, x -> x.passes(who, to, 0));
        }
    }

    private static void pass() {
        Sentence.is("PASS: one who knows a tune, or has a forged one, by which, sung, the gate lifts;");
        Scene people = Scene.of(STAR + ";inn a forges k price 0;inn a forges n price 0;inn a sells k price 0"
            + ";person v at a coins 0;person w at a coins 0;knows w l;knows w n");
        passed(people, 0, "00001");
        passed(people, 1, "01111");
        passed(people.inRain(), 1, "11111");
        passed(people.after(x -> x.buy(0, 1)), 0, "00011");
        passed(people.after(x -> x.buy(0, 0)), 0, "01111");
        passed(people.after(x -> x.buy(0, 0)).inRain(), 0, "11111");
        passed(people.after(x -> x.buy(0, 2)), 0, "11111");
        passed(people.after(x -> x.buy(0, 2)).inRain(), 0, "01111");
        Sentence.is("by roads without a gate anybody.");
        people.tells(1, "who knows nothing", x -> x.passes(0, 0, 5));
        people.inRain().tells(1, "who knows nothing, in rain", x -> x.passes(0, 5, 0));
        people.tells(0, "by one that forgot he can't", x -> x.passes(0, 0, 4));
    }

    private static void length() {
        Sentence.is("How many notes a tune has. NONE: 1.");
        Scene two = Scene.of("turnpike rain 0;place a;tune k ab;tune l abcdefga");
        two.tells(2, "the least", x -> x.length(0));
        two.tells(8, "the most", x -> x.length(1));
        for (int t : Scene.outside(2)) {
            two.refuses(1, "length " + t, x -> x.length(t));
        }
        ROADS.tells(3, "the last of six", x -> x.length(5));
        ROADS.refuses(1, "behind six", x -> x.length(6));
        BARE.refuses(1, "without tunes", x -> x.length(0));
        NOWHERE.refuses(1, "without a ROAD", x -> x.length(0));
    }

    private static void sung() {
        Sentence.is("A note of a tune (0 a to 6 g), or (forged) of its FORGED one, as it is sung NOW (in RAIN or not).");
        Scene scale = Scene.of("turnpike rain 0;place a;tune k abcdefg");
        for (int i = 0; i < 7; i++) {
            int at = i;
            scale.tells(i, "note " + i, x -> x.sung(0, at, false));
        }
        scale.after(x -> x.rain(true)).after(x -> x.rain(false)).tells(6, "dry again", x -> x.sung(0, 6, false));
        scale.inRain().after(TuneGates::undo).tells(6, "rain undone", x -> x.sung(0, 6, false));
        Sentence.is("NONE: 1 (i, too).");
        for (int i : Scene.outside(7)) {
            scale.refuses(1, "note " + i, x -> x.sung(0, i, false));
            scale.inRain().refuses(1, "forged note " + i, x -> x.sung(0, i, true));
        }
        for (int t : Scene.outside(1)) {
            scale.refuses(1, "tune " + t, x -> x.sung(t, 0, false));
        }
        ROADS.refuses(1, "the third of two", x -> x.sung(3, 2, false));
        BARE.refuses(1, "without tunes", x -> x.sung(0, 0, true));
        NOWHERE.refuses(1, "without a ROAD", x -> x.sung(0, 0, false));
    }

    private static void road() {
        Sentence.is("Minutes of the road between two places; -2 there is none. NONE: 1 (unlike).");
        ROADS.tells(1, "the least", x -> x.road(0, 1));
        ROADS.tells(1, "back", x -> x.road(1, 0));
        ROADS.tells(99, "the most", x -> x.road(0, 2));
        ROADS.tells(-2, "to the last place none", x -> x.road(0, 6));
        ROADS.tells(-2, "between two others none", x -> x.road(5, 4));
        for (int p = 0; p < 7; p++) {
            int same = p;
            ROADS.refuses(1, "alike " + p, x -> x.road(same, same));
        }
        for (int p : Scene.outside(7)) {
            ROADS.refuses(1, "to " + p, x -> x.road(0, p));
            ROADS.refuses(1, "from " + p, x -> x.road(p, 0));
            ROADS.refuses(1, "both " + p, x -> x.road(p, p));
        }
        BARE.refuses(1, "one place alone", x -> x.road(0, 1));
        NOWHERE.refuses(1, "without a ROAD", x -> x.road(0, 1));
    }

    private static void gate() {
        Sentence.is("Of the gate between two places 0 KIND (0 strict, 1 kind, 2 deaf, 3 forgot), 1 its tune; -2 there is none."
            + " NONE: 1 (unlike).");
        for (int q = 1; q <= 4; q++) {
            int to = q;
            ROADS.tells(q - 1, "kind", x -> x.gate(0, to, 0));
            ROADS.tells(q - 1, "kind from there", x -> x.gate(to, 0, 0));
            ROADS.tells(0, "tune", x -> x.gate(0, to, 1));
        }
        Scene last = Scene.of(STAR + ";gate a f strict p");
        last.tells(5, "the last tune", x -> x.gate(5, 0, 1));
        for (int what = 0; what <= 1; what++) {
            int part = what;
            ROADS.tells(-2, "a road without a gate", x -> x.gate(0, 5, part));
            ROADS.tells(-2, "no road", x -> x.gate(0, 6, part));
            ROADS.refuses(1, "alike", x -> x.gate(3, 3, part));
            NOWHERE.refuses(1, "without a ROAD", x -> x.gate(0, 1, part));
        }
        for (int none : Scene.outside(7)) {
            ROADS.refuses(1, "to " + none, x -> x.gate(0, none, 0));
            ROADS.refuses(1, "from " + none, x -> x.gate(none, 0, 1));
        }
        for (int none : Scene.outside(2)) {
            ROADS.refuses(1, "what " + none, x -> x.gate(0, 1, none));
        }
    }

    private static void inn() {
        Sentence.is("Of an inn 0 its place, 1 the tune, 2 1 if it forges, 3 price. NONE: 1.");
        Scene six = Scene.of(STAR + ";inn a sells p price 0;inn g forges k price 99;inn b sells l price 1"
            + ";inn b sells l price 1;inn b forges l price 1;inn c forges o price 7");
        int[][] due = {{0, 5, 0, 0}, {6, 0, 1, 99}, {1, 1, 0, 1}, {1, 1, 0, 1}, {1, 1, 1, 1}, {2, 4, 1, 7}};
        for (int k = 0; k < 6; k++) {
            for (int what = 0; what < 4; what++) {
                int one = k;
                int part = what;
                six.tells(due[k][what], "inn " + k + " " + what, x -> x.inn(one, part));
            }
        }
        for (int none : Scene.outside(6)) {
            six.refuses(1, "inn " + none, x -> x.inn(none, 0));
        }
        for (int none : Scene.outside(4)) {
            six.refuses(1, "what " + none, x -> x.inn(0, none));
        }
        ROADS.refuses(1, "without inns", x -> x.inn(0, 0));
        NOWHERE.refuses(1, "without a ROAD", x -> x.inn(0, 0));
    }

    private static void person() {
        Sentence.is("Of a person 0 the place NOW, 1 coins NOW, 2 tunes he knows, 3 forged ones he has, as bits,"
            + " 4 minutes so far. NONE: 1.");
        Scene four = Scene.of(STAR + ";inn a sells p price 9;inn a forges p price 5;inn a forges k price 0"
            + ";person u at g coins 999;person v at a coins 0;person w at f coins 14;person y at a coins 14;knows u k"
            + ";knows u l;knows u m;knows u n;knows u o;knows u p;knows v p");
        Scene later = four.after(x -> x.buy(3, 0)).after(x -> x.buy(3, 1)).after(x -> x.buy(3, 2)).after(x -> x.go(2, 0))
            .after(x -> x.go(2, 5)).after(x -> x.teach(1, 3, 0));
        int[][] due = {{6, 999, 63, 0, 0}, {0, 0, 32, 0, 0}, {5, 14, 0, 0, 8}, {0, 0, 32, 33, 0}};
        for (int who = 0; who < 4; who++) {
            for (int what = 0; what < 5; what++) {
                int one = who;
                int part = what;
                later.tells(due[who][what], "person " + who + " " + what, x -> x.person(one, part));
            }
        }
        four.tells(14, "coins as told", x -> x.person(3, 1));
        for (int none : Scene.outside(4)) {
            four.refuses(1, "person " + none, x -> x.person(none, 0));
        }
        for (int none : Scene.outside(5)) {
            four.refuses(1, "what " + none, x -> x.person(0, none));
        }
        ROADS.refuses(1, "without people", x -> x.person(0, 0));
        NOWHERE.refuses(1, "without a ROAD", x -> x.person(0, 0));
    }

    private static void lifts() {
        Sentence.is("1 if a gate between two places lifts NOW to a tune (or, forged, its FORGED one), else 0;");
        ROADS.tells(1, "its tune", x -> x.lifts(0, 1, 0, false));
        ROADS.tells(0, "its tune forged", x -> x.lifts(0, 1, 0, true));
        ROADS.inRain().tells(0, "its tune in rain", x -> x.lifts(0, 1, 0, false));
        ROADS.inRain().tells(1, "its tune forged in rain", x -> x.lifts(0, 1, 0, true));
        Sentence.is("1 if there is a road without a gate. NONE: 1 (no road, too).");
        lift(ROADS, 5, "111111111111");
        ROADS.refuses(1, "no road", x -> x.lifts(0, 6, 0, false));
        ROADS.refuses(1, "no road between two others", x -> x.lifts(1, 2, 0, true));
        ROADS.refuses(1, "one place", x -> x.lifts(0, 0, 0, false));
        for (int none : Scene.outside(7)) {
            ROADS.refuses(1, "to " + none, x -> x.lifts(0, none, 0, false));
            ROADS.refuses(1, "from " + none, x -> x.lifts(none, 0, 0, false));
        }
        for (int none : Scene.outside(6)) {
            ROADS.refuses(1, "tune " + none, x -> x.lifts(0, 1, none, false));
            ROADS.refuses(1, "without a gate, tune " + none, x -> x.lifts(0, 5, none, true));
        }
        NOWHERE.refuses(1, "without a ROAD", x -> x.lifts(0, 1, 0, false));
    }

    private static void passes() {
        Sentence.is("1 if one can PASS between two places, else 0. NONE: 1 (no road, too).");
        Scene one = Scene.of(STAR + ";person v at g coins 0;knows v k");
        passed(one, 0, "11111");
        passed(one.inRain(), 0, "01111");
        one.refuses(1, "no road", x -> x.passes(0, 0, 6));
        one.refuses(1, "no road between two others", x -> x.passes(0, 3, 4));
        one.refuses(1, "one place", x -> x.passes(0, 1, 1));
        for (int none : Scene.outside(7)) {
            one.refuses(1, "to " + none, x -> x.passes(0, 0, none));
            one.refuses(1, "from " + none, x -> x.passes(0, none, 0));
        }
        for (int none : Scene.outside(1)) {
            one.refuses(1, "person " + none, x -> x.passes(none, 0, 1));
            one.refuses(1, "without a gate, person " + none, x -> x.passes(none, 0, 5));
        }
        ROADS.refuses(1, "without people", x -> x.passes(0, 0, 5));
        NOWHERE.refuses(1, "without a ROAD", x -> x.passes(0, 0, 1));
    }

    private static void opens() {
        Sentence.is("How many gates a tune (not forged) lifts NOW. NONE: 1.");
        int[] dry = {4, 3, 2, 1, 1, 2};
        int[] wet = {3, 4, 3, 1, 1, 2};
        for (int t = 0; t < 6; t++) {
            int tune = t;
            ROADS.tells(dry[t], "opens " + t, x -> x.opens(tune));
            ROADS.inRain().tells(wet[t], "opens in rain " + t, x -> x.opens(tune));
        }
        for (int none : Scene.outside(6)) {
            ROADS.refuses(1, "opens " + none, x -> x.opens(none));
        }
        Scene gateless = Scene.of("turnpike rain 0;tune k ab;place a;place b;road a b minutes 1");
        gateless.tells(0, "without gates", x -> x.opens(0));
        BARE.refuses(1, "without tunes", x -> x.opens(0));
        NOWHERE.refuses(1, "without a ROAD", x -> x.opens(0));
    }

    private static void likest(String tunes, int due) {
        StringBuilder text = new StringBuilder("turnpike rain 0;place z");
        for (String tune : tunes.split(" ")) {
            text.append(";tune ").append((char) ('k' + text.toString().split("tune").length)).append(' ').append(tune);
        }
        Scene.of(text.toString()).tells(due, "likest of " + tunes, x -> x.likest());
        Scene.of(text.toString()).inRain().tells(due, "likest in rain of " + tunes, x -> x.likest());
    }

    private static void likest() {
        Sentence.is("Two tunes that are alike in most notes (as long as each other), the first two:"
            + " 10 times the lesser and the other one;");
        likest("aa aa", 1);
        likest("aa bb", 1);
        likest("aa bb cc", 1);
        likest("aa bb ab", 2);
        likest("ab ba bb aa", 2);
        likest("aa aaa bbb aab", 13);
        likest("abcdefga abcdefgb bbcdefgb", 1);
        likest("aa bbb cccc ddddd dd ee", 4);
        likest("aa bbb cccc ddddd eeeeee ffffff", 45);
        likest("ab cd ef ga ge fe", 34);
        Sentence.is("-2 no two are as long. NONE: 1 (no ROAD).");
        likest("ab", -2);
        likest("ab abc", -2);
        likest("ab abc abcd abcde abcdef abcdefg", -2);
        BARE.tells(-2, "without tunes", x -> x.likest());
        NOWHERE.refuses(1, "without a ROAD", x -> x.likest());
    }
}
