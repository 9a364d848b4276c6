/** Promises 16 to 24: way, wayAt, reach, reachIf, bestTune, trip, tripInns, farReach, soonest. */
public final class WaysTest {
    /** A diamond: from p by q or r to s in 4 minutes, and at once in 5; u is far from all. */
    private static final String DIAMOND = "turnpike rain 10;tune k ab;tune l abc;tune m cde;place p;place r;place q;place s"
        + ";place u;road p q minutes 2;road p r minutes 3;road q s minutes 2;road r s minutes 1;road p s minutes 5";

    public static void main(String[] args) {
        ways();
        reach();
        bestTune();
        trips();
        tripTies();
        farReach();
        soonest();
        refusals();
        Check.end("WaysTest");
    }

    private static void way(TuneGates x, int who, int p, int minutes, int... places) {
        Check.fine(x, "way to " + p, x.way(who, p), minutes);
        for (int i = 0; i < places.length; i++) {
            Check.fine(x, "way to " + p + " at " + i, x.wayAt(who, p, i), places[i]);
        }
        Check.refused(x, "way to " + p + " at its end", x.wayAt(who, p, places.length), 1);
        Check.refused(x, "way to " + p + " ahead of it", x.wayAt(who, p, -1), 1);
        Check.refused(x, "way to " + p + " at the most", x.wayAt(who, p, Integer.MAX_VALUE), 1);
    }

    private static void ways() {
        TuneGates x = Check.told(DIAMOND + ";gate p r strict k;person v at p coins 0;person w at s coins 0;knows v k");
        way(x, 0, 0, 0, 0);
        way(x, 0, 3, 4, 0, 1, 3);
        way(x, 0, 2, 2, 0, 2);
        way(x, 0, 4, -2);
        way(x, 1, 0, 4, 3, 2, 0);
        way(x, 1, 1, 1, 3, 1);
        x.rain(true);
        way(x, 0, 3, 4, 0, 2, 3);
        way(x, 0, 1, 5, 0, 2, 3, 1);
        TuneGates y = Check.told("turnpike rain 0;place a;place b;place c;place d;road a d minutes 9;road a b minutes 3"
            + ";road b c minutes 3;road c d minutes 3;road a c minutes 6;person x at a coins 0");
        way(y, 0, 3, 9, 0, 1, 2, 3);
        way(y, 0, 2, 6, 0, 1, 2);
        TuneGates z = Check.told("turnpike rain 0;place a;place b;place c;place d;place e;place f;place g"
            + ";road a c minutes 99;road c b minutes 99;road b e minutes 99;road e d minutes 99;road d g minutes 99"
            + ";road g f minutes 99;person x at a coins 0");
        way(z, 0, 5, 594, 0, 2, 1, 4, 3, 6, 5);
    }

    private static void reach() {
        TuneGates x = Check.told(DIAMOND + ";gate p r strict k;gate p q strict k;gate p s strict k;gate r s strict l"
            + ";person v at p coins 0;person w at s coins 0;knows v k");
        Check.fine(x, "reach", x.reach(0), 15);
        Check.fine(x, "reach of who knows nothing", x.reach(1), 12);
        Check.fine(x, "reachIf it rained", x.reachIf(0, true), 1);
        Check.fine(x, "reachIf not", x.reachIf(0, false), 15);
        x.rain(true);
        Check.fine(x, "reach in rain", x.reach(0), 1);
        Check.fine(x, "reachIf it rained, in rain", x.reachIf(0, true), 1);
        Check.fine(x, "reachIf not, in rain", x.reachIf(0, false), 15);
    }

    private static void bestTune() {
        String star = "turnpike rain 0;tune k ab;tune l ac;tune m ad;tune n ae;place a;place b;place c;place d;place e"
            + ";road a b minutes 1;road a c minutes 1;road a d minutes 1;road b e minutes 1"
            + ";gate a b strict k;gate a c strict l;gate a d strict m;gate b e strict m;person x at a coins 0";
        TuneGates x = Check.told(star);
        Check.fine(x, "bestTune, the first of like ones", x.bestTune(0), 0);
        x = Check.told(star + ";knows x k");
        Check.fine(x, "bestTune, most places", x.bestTune(0), 2);
        x = Check.told(star + ";knows x k;knows x m");
        Check.fine(x, "bestTune, the only one", x.bestTune(0), 1);
        x = Check.told(star + ";knows x k;knows x m;knows x l");
        Check.fine(x, "bestTune, none more", x.bestTune(0), -2);
        x = Check.told(star);
        x.rain(true);
        Check.fine(x, "bestTune in rain", x.bestTune(0), 1);
    }

    private static void trip(TuneGates x, int who, int p, int coins, int inns) {
        Check.fine(x, "trip to " + p, x.trip(who, p), coins);
        Check.fine(x, "tripInns to " + p, x.tripInns(who, p), inns);
    }

    private static void trips() {
        String line = "turnpike rain 0;tune k ab;tune l ac;tune m cd;place a;place b;place c;place d;road a b minutes 1"
            + ";road b c minutes 1;road c d minutes 1;gate a b strict k;gate b c strict l;gate c d strict m";
        TuneGates x = Check.told(line + ";inn c sells m price 1;inn b sells l price 2;inn a sells k price 3"
            + ";inn a sells m price 9;person x at a coins 6;person y at a coins 5;person z at b coins 99");
        trip(x, 0, 0, 0, 0);
        trip(x, 0, 1, 3, 4);
        trip(x, 0, 2, 5, 6);
        trip(x, 0, 3, 6, 7);
        trip(x, 1, 2, 5, 6);
        trip(x, 1, 3, -2, -2);
        trip(x, 2, 0, -2, -2);
        trip(x, 2, 3, 3, 3);
        x.go(0, 1);
        trip(x, 0, 3, 6, 7);
        x.buy(0, 2);
        trip(x, 0, 3, 3, 3);
        TuneGates y = Check.told("turnpike rain 0;tune k ab;tune l ac;place a;place b;road a b minutes 1;gate a b strict l"
            + ";inn a forges k price 4;inn a sells l price 5;person x at a coins 9");
        trip(y, 0, 1, 4, 1);
        y.rain(true);
        trip(y, 0, 1, -2, -2);
        y.rain(false);
        Check.due("the trip changes nothing", y.person(0, 1), 9);
        Check.due("the trip changes nothing", y.person(0, 3), 0);
        TuneGates z = Check.told("turnpike rain 0;tune k ab;place a;place b;place c;road a b minutes 1;road b c minutes 1"
            + ";gate a b strict k;gate b c strict k;inn b sells k price 0;inn c sells k price 0;person x at a coins 9");
        trip(z, 0, 2, -2, -2);
    }

    private static void tripTies() {
        String two = "turnpike rain 0;tune k ab;tune l ac;tune m ad;place a;place b;place c;road a b minutes 1"
            + ";road b c minutes 1;road a c minutes 1;gate a b strict k;gate b c strict l;gate a c strict m";
        TuneGates x = Check.told(two + ";inn a sells k price 2;inn a sells l price 3;inn a sells m price 5"
            + ";person x at a coins 9");
        trip(x, 0, 2, 5, 4);
        TuneGates y = Check.told(two + ";inn a sells m price 6;inn a sells l price 3;inn a sells k price 2"
            + ";person x at a coins 9");
        trip(y, 0, 2, 5, 6);
        TuneGates z = Check.told(two + ";inn a sells l price 0;inn a sells m price 5;inn a sells m price 5"
            + ";inn a sells m price 7;person x at a coins 9");
        trip(z, 0, 2, 5, 2);
        TuneGates w = Check.told(two + ";inn a sells m price 10;person x at a coins 9;person y at a coins 10");
        trip(w, 0, 2, -2, -2);
        trip(w, 1, 2, 10, 1);
    }

    private static void farReach() {
        TuneGates x = Check.told("turnpike rain 0;tune k ab;tune l ac;place a;place b;place c;place d;road a b minutes 1"
            + ";road a c minutes 1;road c d minutes 1;gate a b strict k;gate a c strict l;inn a sells k price 5"
            + ";inn a sells l price 5;person x at a coins 5;person y at d coins 0;person z at a coins 4");
        Check.fine(x, "farReach by one of two", x.farReach(0), 15);
        Check.fine(x, "farReach without coins", x.farReach(1), 12);
        Check.fine(x, "farReach with too few", x.farReach(2), 1);
        x.rain(true);
        Check.fine(x, "farReach in rain", x.farReach(0), 3);
    }

    private static void soonest() {
        TuneGates x = Check.told("turnpike rain 0;tune k ab;place a;place b;place c;place d;road a b minutes 5"
            + ";road c b minutes 5;gate c b strict k;person x at c coins 0;person y at a coins 0;person z at b coins 0"
            + ";person v at b coins 0");
        Check.fine(x, "soonest", x.soonest(1), 2);
        Check.fine(x, "soonest where he is", x.soonest(0), 1);
        Check.fine(x, "soonest, one alone", x.soonest(2), 0);
        Check.fine(x, "soonest, nobody", x.soonest(3), -2);
        TuneGates y = Check.told("turnpike rain 0;place a");
        Check.fine(y, "soonest without people", y.soonest(0), -2);
        TuneGates z = Check.told("turnpike rain 0;tune k ab;place a;place b;place c;road a b minutes 5;road c b minutes 5"
            + ";gate c b strict k;person x at c coins 0;person y at a coins 0;knows x k");
        Check.fine(z, "soonest, the first of like ones", z.soonest(1), 0);
        z.rain(true);
        Check.fine(z, "soonest in rain", z.soonest(1), 1);
    }

    private static void refusals() {
        TuneGates x = Check.told(DIAMOND + ";person v at p coins 0");
        for (TuneGates each : new TuneGates[] {x, new TuneGates()}) {
            for (int bad : new int[] {-1, 5, Integer.MIN_VALUE, Integer.MAX_VALUE}) {
                Check.refused(each, "way of nobody", each.way(bad, 0), 1);
                Check.refused(each, "way to nowhere", each.way(0, bad), 1);
                Check.refused(each, "wayAt of nobody", each.wayAt(bad, 0, 0), 1);
                Check.refused(each, "wayAt to nowhere", each.wayAt(0, bad, 0), 1);
                Check.refused(each, "reach", each.reach(bad), 1);
                Check.refused(each, "reachIf", each.reachIf(bad, true), 1);
                Check.refused(each, "bestTune", each.bestTune(bad), 1);
                Check.refused(each, "trip of nobody", each.trip(bad, 0), 1);
                Check.refused(each, "trip to nowhere", each.trip(0, bad), 1);
                Check.refused(each, "tripInns of nobody", each.tripInns(bad, 0), 1);
                Check.refused(each, "tripInns to nowhere", each.tripInns(0, bad), 1);
                Check.refused(each, "farReach", each.farReach(bad), 1);
                Check.refused(each, "soonest", each.soonest(bad), 1);
            }
        }
        TuneGates none = new TuneGates();
        Check.refused(none, "way without a road", none.way(0, 0), 1);
        Check.refused(none, "soonest without a road", none.soonest(0), 1);
    }
}
