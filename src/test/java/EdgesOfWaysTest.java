/** WAY and TRIP of the Terms, and promises 16 to 24, sentence by sentence. */
public final class EdgesOfWaysTest {
    private static final Scene NOWHERE = Scene.withoutRoad();
    private static final Scene BARE = Scene.of("turnpike rain 0;place a");
    private static final Scene ALONE = Scene.of("turnpike rain 0;place a;person x at a coins 0");
    /** All seven places in a row, in the order a c b e d g f, by the most minutes. */
    private static final Scene LONG = Scene.of("turnpike rain 0;place a;place b;place c;place d;place e;place f;place g"
        + ";road a c minutes 99;road c b minutes 99;road b e minutes 99;road e d minutes 99;road d g minutes 99"
        + ";road g f minutes 99;person x at a coins 0;person y at f coins 0");
    /** From a to b by a strict gate of k, on to c by one of l; d is far from all. */
    private static final String GATES = "turnpike rain 0;tune k ab;tune l ac;tune m ad;place a;place b;place c;place d"
        + ";road a b minutes 4;road b c minutes 5;gate a b strict k;gate b c strict l";

    public static void main(String[] args) {
        wayByRoads();
        wayFirst();
        trips();
        tripOrder();
        tripCoins();
        tripTies();
        way();
        wayAt();
        reach();
        reachIf();
        bestTune();
        trip();
        farReach();
        soonest();
        Sentence.end("EdgesOfWaysTest");
    }

    private static void gone(Scene scene, int who, int p, int minutes, int... places) {
        scene.tells(minutes, "way to " + p, x -> x.way(who, p));
        for (int i = 0; i < places.length; i++) {
            int at = i;
            scene.tells(places[i], "way to " + p + " at " + i, x -> x.wayAt(who, p, at));
        }
        scene.refuses(1, "way to " + p + " at its end", x -> x.wayAt(who, p, places.length));
    }

    private static void planned(Scene scene, int who, int p, int coins, int inns) {
        scene.tells(coins, "trip to " + p, x -> x.trip(who, p));
        scene.tells(inns, "tripInns to " + p, x -> x.tripInns(who, p));
    }

    private static void wayByRoads() {
        Sentence.is("WAY of one with what he has: roads, both ways, on each of which he can PASS as it is NOW (RAIN or not)");
        Scene one = Scene.of(GATES + ";inn a forges k price 0;inn b sells l price 0;person x at a coins 0"
            + ";person y at c coins 0;knows x k;knows y l");
        gone(one, 0, 1, 4, 0, 1);
        gone(one, 0, 2, -2);
        gone(one, 1, 1, 5, 2, 1);
        gone(one, 1, 0, -2);
        gone(one.inRain(), 0, 1, -2);
        gone(one.after(x -> x.buy(0, 0)).inRain(), 0, 1, 4, 0, 1);
        gone(one.after(x -> x.go(0, 1)).after(x -> x.buy(0, 1)), 0, 2, 5, 1, 2);
        gone(one.after(x -> x.go(0, 1)).after(x -> x.buy(0, 1)), 0, 0, 4, 1, 0);
        gone(one.after(x -> x.go(0, 1)).after(x -> x.buy(0, 1)).inRain(), 0, 0, 4, 1, 0);
    }

    private static void wayFirst() {
        Sentence.is("the fewest minutes; of like ones the first by places' numbers, one by one.");
        String ring = "turnpike rain 0;place a;place b;place c;place d;person x at a coins 0";
        gone(Scene.of(ring + ";road a d minutes 9;road a b minutes 4;road b d minutes 4"), 0, 3, 8, 0, 1, 3);
        gone(Scene.of(ring + ";road a d minutes 8;road a b minutes 4;road b d minutes 4"), 0, 3, 8, 0, 1, 3);
        gone(Scene.of(ring + ";road a d minutes 7;road a b minutes 4;road b d minutes 4"), 0, 3, 7, 0, 3);
        gone(Scene.of(ring + ";road a b minutes 9;road a c minutes 4;road c b minutes 5"), 0, 1, 9, 0, 1);
        gone(Scene.of(ring + ";road a b minutes 9;road a c minutes 4;road c b minutes 4"), 0, 1, 8, 0, 2, 1);
        gone(Scene.of(ring + ";road a c minutes 1;road c d minutes 7;road a b minutes 7;road b d minutes 1"), 0, 3, 8, 0, 1, 3);
        gone(Scene.of(ring + ";road a c minutes 1;road c d minutes 6;road a b minutes 7;road b d minutes 1"), 0, 3, 7, 0, 2, 3);
        gone(Scene.of(ring + ";road a b minutes 1;road b c minutes 1;road c d minutes 1;road b d minutes 2"), 0, 3, 3,
            0, 1, 2, 3);
        gone(Scene.of(ring.replace("x at a", "x at d") + ";road a d minutes 3;road d c minutes 1;road d b minutes 2"
            + ";road c a minutes 2;road b a minutes 1"), 0, 0, 3, 3, 0);
    }

    private static void trips() {
        Sentence.is("sets of inns at which he buys, each once, one behind the other in some order, to each of which he has"
            + " a WAY by what he has then (from where he is NOW), so that he has a WAY to the place behind all"
            + " (RAIN or not, as NOW)");
        Scene two = Scene.of(GATES + ";inn b sells l price 1;inn a sells k price 2;person x at a coins 9");
        planned(two, 0, 0, 0, 0);
        planned(two, 0, 1, 2, 2);
        planned(two, 0, 2, 3, 3);
        planned(two, 0, 3, -2, -2);
        planned(two.inRain(), 0, 1, -2, -2);
        Scene behindIts = Scene.of(GATES + ";inn b sells k price 0;inn c sells l price 0;inn d sells k price 0"
            + ";person x at a coins 9");
        planned(behindIts, 0, 1, -2, -2);
        planned(behindIts, 0, 2, -2, -2);
        Scene wet = Scene.of(GATES + ";inn a sells l price 1;inn a forges k price 2;inn a sells m price 3"
            + ";person x at a coins 9");
        planned(wet, 0, 1, -2, -2);
        planned(wet.inRain(), 0, 1, 1, 1);
        planned(wet.inRain(), 0, 2, 4, 5);
        Scene there = two.after(x -> x.buy(0, 1)).after(x -> x.go(0, 1)).inRain();
        planned(there, 0, 0, 1, 1);
        planned(there, 0, 1, 0, 0);
        planned(there, 0, 2, -2, -2);
    }

    private static void tripOrder() {
        Sentence.is("one behind the other in some order");
        String six = "turnpike rain 0;tune k ab;tune l ac;tune m ad;tune n ae;tune o af;tune p ag;place a;place b;place c"
            + ";place d;place e;place f;place g;road a b minutes 1;road b c minutes 1;road c d minutes 1;road d e minutes 1"
            + ";road e f minutes 1;road f g minutes 1;gate a b strict k;gate b c strict l;gate c d strict m;gate d e strict n"
            + ";gate e f strict o;gate f g strict p";
        Scene backwards = Scene.of(six + ";inn f sells p price 1;inn e sells o price 2;inn d sells n price 3"
            + ";inn c sells m price 4;inn b sells l price 5;inn a sells k price 6;person x at a coins 21"
            + ";person y at a coins 20");
        planned(backwards, 0, 6, 21, 63);
        planned(backwards, 1, 6, -2, -2);
        planned(backwards, 1, 5, 20, 62);
        backwards.tells(127, "farReach", x -> x.farReach(0));
        backwards.tells(63, "farReach with a coin less", x -> x.farReach(1));
        Scene forwards = Scene.of(six + ";inn a sells k price 6;inn b sells l price 5;inn c sells m price 4"
            + ";inn d sells n price 3;inn e sells o price 2;inn f sells p price 1;person x at a coins 999");
        planned(forwards, 0, 6, 21, 63);
        planned(forwards, 0, 1, 6, 1);
    }

    private static void tripCoins() {
        Sentence.is("the least coins together, no more than he has NOW;");
        Scene dear = Scene.of(GATES + ";inn a sells k price 99;inn a sells l price 99;person w at a coins 198"
            + ";person x at a coins 197;person y at a coins 99;person z at a coins 98");
        planned(dear, 0, 2, 198, 3);
        planned(dear, 1, 2, -2, -2);
        planned(dear, 1, 1, 99, 1);
        planned(dear, 2, 1, 99, 1);
        planned(dear, 3, 1, -2, -2);
        planned(dear.after(x -> x.buy(0, 0)), 0, 2, 99, 2);
        planned(dear.after(x -> x.buy(1, 0)), 1, 2, -2, -2);
        planned(dear.after(x -> x.buy(2, 0)), 2, 1, 0, 0);
        planned(dear.after(x -> x.buy(2, 1)), 2, 1, -2, -2);
        planned(Scene.of(GATES + ";inn a sells k price 0;person x at a coins 0"), 0, 1, 0, 1);
        planned(Scene.of(GATES + ";inn a sells k price 8;inn a sells k price 7;inn a sells k price 9;person x at a coins 9"),
            0, 1, 7, 2);
        planned(Scene.of(GATES + ";inn a sells k price 9;inn a forges k price 1;inn a sells m price 1"
            + ";road a c minutes 1;gate a c deaf m;person x at a coins 99"), 0, 2, 1, 2);
    }

    private static void tripTies() {
        String four = "turnpike rain 0;tune k ab;tune l ac;tune m ad;tune n ae;tune o af;place a;place b;place c;place d"
            + ";road a b minutes 1;road b d minutes 1;road a c minutes 1;road c d minutes 1;gate a b strict k"
            + ";gate b d strict n;gate a c strict l;gate c d strict m;person x at a coins 9";
        Sentence.is("of like ones the fewest inns, of these the least bits.");
        planned(Scene.of(four + ";inn a sells k price 1;inn a sells l price 1;inn a sells m price 1;inn a sells n price 1"),
            0, 3, 2, 6);
        planned(Scene.of(four + ";inn a sells k price 1;inn a sells n price 1;inn a sells l price 1;inn a sells m price 1"),
            0, 3, 2, 3);
        planned(Scene.of(four + ";road a d minutes 1;gate a d strict o;inn a sells k price 1;inn a sells n price 1"
            + ";inn a sells o price 2"), 0, 3, 2, 4);
        planned(Scene.of(four + ";road a d minutes 1;gate a d strict o;inn a sells k price 1;inn a sells n price 1"
            + ";inn a sells o price 3"), 0, 3, 2, 3);
        planned(Scene.of(four + ";inn a sells o price 0;inn a sells k price 0;inn a sells k price 0"), 0, 1, 0, 2);
        planned(Scene.of(four + ";inn a sells o price 0"), 0, 0, 0, 0);
    }

    private static void way() {
        Sentence.is("WAY to a place: the minutes; -2 there is none. NONE: 1.");
        gone(LONG, 0, 0, 0, 0);
        gone(LONG, 0, 5, 594, 0, 2, 1, 4, 3, 6, 5);
        gone(LONG, 1, 0, 594, 5, 6, 3, 4, 1, 2, 0);
        gone(ALONE, 0, 0, 0, 0);
        Scene apart = Scene.of("turnpike rain 0;place a;place b;person x at b coins 0");
        gone(apart, 0, 1, 0, 1);
        gone(apart, 0, 0, -2);
        for (int none : Scene.outside(7)) {
            LONG.refuses(1, "way to " + none, x -> x.way(0, none));
        }
        for (int none : Scene.outside(2)) {
            LONG.refuses(1, "way of " + none, x -> x.way(none, 0));
        }
        BARE.refuses(1, "way without people", x -> x.way(0, 0));
        NOWHERE.refuses(1, "way without a ROAD", x -> x.way(0, 0));
    }

    private static void wayAt() {
        Sentence.is("Its i-th place (0: where he is). NONE: 1 (i, too).");
        for (int none : Scene.outside(7)) {
            LONG.refuses(1, "place " + none, x -> x.wayAt(0, 5, none));
            LONG.refuses(1, "to " + none, x -> x.wayAt(0, none, 0));
        }
        for (int none : Scene.outside(1)) {
            LONG.refuses(1, "where he is, place " + none, x -> x.wayAt(0, 0, none));
            ALONE.refuses(1, "one alone, place " + none, x -> x.wayAt(0, 0, none));
        }
        for (int none : Scene.outside(2)) {
            LONG.refuses(1, "of " + none, x -> x.wayAt(none, 0, 0));
        }
        Scene apart = Scene.of("turnpike rain 0;place a;place b;person x at a coins 0");
        for (int i : new int[] {-1, 0, 1, 2}) {
            apart.refuses(1, "without a WAY " + i, x -> x.wayAt(0, 1, i));
        }
        BARE.refuses(1, "wayAt without people", x -> x.wayAt(0, 0, 0));
        NOWHERE.refuses(1, "wayAt without a ROAD", x -> x.wayAt(0, 0, 0));
    }

    private static void reach() {
        Sentence.is("Places to which one has a WAY, as bits. NONE: 1.");
        LONG.tells(127, "all", x -> x.reach(0));
        LONG.tells(127, "all from the other end", x -> x.reach(1));
        ALONE.tells(1, "one alone", x -> x.reach(0));
        Scene one = Scene.of(GATES + ";person x at a coins 0;person y at d coins 0;knows x k");
        one.tells(3, "by his tune", x -> x.reach(0));
        one.inRain().tells(1, "in rain", x -> x.reach(0));
        one.tells(8, "where no road is", x -> x.reach(1));
        Scene idle = Scene.of(GATES + ";person x at a coins 0;person y at b coins 0");
        idle.tells(1, "who knows nothing", x -> x.reach(0));
        idle.tells(2, "who knows nothing, between gates", x -> x.reach(1));
        for (int none : Scene.outside(2)) {
            LONG.refuses(1, "reach of " + none, x -> x.reach(none));
            LONG.refuses(1, "reachIf of " + none, x -> x.reachIf(none, false));
        }
        BARE.refuses(1, "without people", x -> x.reach(0));
        NOWHERE.refuses(1, "without a ROAD", x -> x.reach(0));
    }

    private static void reachIf() {
        Sentence.is("Places he would reach, if it rained (or not), as bits. NONE: 1.");
        Scene one = Scene.of(GATES + ";person x at a coins 0;knows x k");
        for (Scene each : new Scene[] {one, one.inRain()}) {
            each.tells(1, "if it rained", x -> x.reachIf(0, true));
            each.tells(3, "if not", x -> x.reachIf(0, false));
        }
        LONG.tells(127, "all from the other end", x -> x.reachIf(1, true));
        Scene idle = Scene.of(GATES + ";person x at a coins 0");
        idle.tells(1, "who knows nothing", x -> x.reachIf(0, false));
        BARE.refuses(1, "without people", x -> x.reachIf(0, true));
        NOWHERE.refuses(1, "without a ROAD", x -> x.reachIf(0, false));
    }

    private static void bestTune() {
        Sentence.is("The tune by which, if he knew it, he would reach most places more, the first such; -2 none. NONE: 1.");
        String text = GATES + ";road a d minutes 9;gate a d strict m";
        Scene one = Scene.of(text + ";inn a forges k price 0;inn a sells k price 0;person x at a coins 0");
        one.tells(0, "the first of two", x -> x.bestTune(0));
        one.after(x -> x.buy(0, 1)).tells(1, "the first of two others", x -> x.bestTune(0));
        one.after(x -> x.buy(0, 0)).tells(0, "his forged one lifts nothing", x -> x.bestTune(0));
        one.inRain().tells(1, "in rain another one", x -> x.bestTune(0));
        Scene most = Scene.of(GATES + ";road b d minutes 9;gate b d strict m;person x at a coins 0;knows x l;knows x m");
        most.tells(0, "most places", x -> x.bestTune(0));
        Scene last = Scene.of(text + ";road d c minutes 1;person x at a coins 0");
        last.tells(2, "most places, not the first", x -> x.bestTune(0));
        Scene all = Scene.of(text + ";person x at a coins 0;knows x k;knows x l;knows x m");
        all.tells(-2, "none more", x -> x.bestTune(0));
        Scene idle = Scene.of(GATES + ";person x at d coins 0");
        idle.tells(-2, "none by any", x -> x.bestTune(0));
        ALONE.tells(-2, "without tunes", x -> x.bestTune(0));
        // By ac one would come to both places, but the only such one is the first tune forged.
        Scene six = Scene.of("turnpike rain 0;tune k ab;tune l bc;tune m ad;tune n abc;tune o abc;tune p abc;place a;place b"
            + ";place c;road a b minutes 1;road a c minutes 1;gate a b kind l;gate a c kind m;person x at a coins 0");
        six.tells(0, "of six tunes", x -> x.bestTune(0));
        for (int none : Scene.outside(1)) {
            one.refuses(1, "bestTune of " + none, x -> x.bestTune(none));
        }
        BARE.refuses(1, "without people", x -> x.bestTune(0));
        NOWHERE.refuses(1, "without a ROAD", x -> x.bestTune(0));
    }

    private static void trip() {
        Sentence.is("TRIP: the coins; -2 it can't be. NONE: 1.");
        planned(ALONE, 0, 0, 0, 0);
        planned(LONG, 0, 5, 0, 0);
        planned(Scene.of(GATES + ";person x at a coins 999"), 0, 1, -2, -2);
        for (int none : Scene.outside(7)) {
            LONG.refuses(1, "trip to " + none, x -> x.trip(0, none));
        }
        for (int none : Scene.outside(2)) {
            LONG.refuses(1, "trip of " + none, x -> x.trip(none, 0));
        }
        BARE.refuses(1, "without people", x -> x.trip(0, 0));
        NOWHERE.refuses(1, "without a ROAD", x -> x.trip(0, 0));
        Sentence.is("The inns of it, as bits; -2. NONE: 1.");
        planned(Scene.of(GATES + ";inn d sells k price 0;person x at a coins 999"), 0, 1, -2, -2);
        planned(Scene.of(GATES + ";inn a sells m price 0;inn a sells m price 0;inn a sells m price 0;inn a sells m price 0"
            + ";inn a sells m price 0;inn a sells k price 99;person x at a coins 99"), 0, 1, 99, 32);
        for (int none : Scene.outside(7)) {
            LONG.refuses(1, "tripInns to " + none, x -> x.tripInns(0, none));
        }
        for (int none : Scene.outside(2)) {
            LONG.refuses(1, "tripInns of " + none, x -> x.tripInns(none, 0));
        }
        BARE.refuses(1, "without people", x -> x.tripInns(0, 0));
        NOWHERE.refuses(1, "without a ROAD", x -> x.tripInns(0, 0));
    }

    private static void farReach() {
        Sentence.is("Places to which there is a TRIP, as bits. NONE: 1.");
        LONG.tells(127, "all", x -> x.farReach(0));
        ALONE.tells(1, "one alone", x -> x.farReach(0));
        // By the coins he has he may come to one of them, not to both: each has a TRIP of its own.
        Scene either = Scene.of("turnpike rain 0;tune k ab;tune l ac;place a;place b;place c;road a b minutes 1"
            + ";road a c minutes 1;gate a b strict k;gate a c strict l;inn a sells k price 5;inn a sells l price 5"
            + ";person x at a coins 5;person y at a coins 4;person z at a coins 10");
        either.tells(7, "either", x -> x.farReach(0));
        either.tells(1, "neither", x -> x.farReach(1));
        either.tells(7, "both", x -> x.farReach(2));
        either.after(x -> x.buy(0, 0)).tells(3, "one bought", x -> x.farReach(0));
        either.inRain().tells(3, "in rain", x -> x.farReach(0));
        LONG.tells(127, "all from the other end", x -> x.farReach(1));
        Scene elsewhere = Scene.of(GATES + ";person x at d coins 0;person y at b coins 9;inn b sells l price 9");
        elsewhere.tells(8, "where no road is", x -> x.farReach(0));
        elsewhere.tells(6, "not to the first place", x -> x.farReach(1));
        for (int none : Scene.outside(3)) {
            either.refuses(1, "farReach of " + none, x -> x.farReach(none));
        }
        BARE.refuses(1, "without people", x -> x.farReach(0));
        NOWHERE.refuses(1, "without a ROAD", x -> x.farReach(0));
    }

    private static void soonest() {
        Sentence.is("The person who has the soonest WAY to a place, the first such; -2 nobody has one. NONE: 1.");
        LONG.tells(0, "where he is", x -> x.soonest(0));
        LONG.tells(1, "where the other one is", x -> x.soonest(5));
        LONG.tells(0, "in the midst, the first", x -> x.soonest(4));
        LONG.tells(1, "nearer to the other one", x -> x.soonest(3));
        Scene four = Scene.of(GATES + ";person w at c coins 0;person x at b coins 0;person y at a coins 0"
            + ";person z at a coins 0;knows z k;knows w l");
        four.tells(2, "where two are, the first", x -> x.soonest(0));
        four.tells(1, "where one is", x -> x.soonest(1));
        four.tells(-2, "nobody", x -> x.soonest(3));
        four.after(x -> x.teach(3, 2, 0)).after(x -> x.go(2, 1)).after(x -> x.go(3, 1)).tells(2, "by WAYS alike, the first",
            x -> x.soonest(0));
        four.after(x -> x.go(3, 1)).after(x -> x.go(0, 1)).tells(2, "who stayed", x -> x.soonest(0));
        BARE.tells(-2, "without people", x -> x.soonest(0));
        for (int none : Scene.outside(7)) {
            LONG.refuses(1, "soonest to " + none, x -> x.soonest(none));
        }
        NOWHERE.refuses(1, "without a ROAD", x -> x.soonest(0));
    }
}
