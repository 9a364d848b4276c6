/** Promises 31 to 36: rows, could, surely, ask, askLeaves, suspect. */
public final class StrangerTest {
    private static final String PLACES = "turnpike rain 0;tune k ab;tune l ab;place a;place b;place c;place d;place e"
        + ";road a b minutes 1;road b c minutes 1;road c d minutes 1;road b d minutes 1;road d e minutes 1"
        + ";gate a b deaf k;gate b c forgot l;gate c d strict k;gate b d kind l";

    public static void main(String[] args) {
        nothingHeard();
        oneHeard();
        severalHeard();
        noRows();
        suspects();
        refusals();
        Check.end("StrangerTest");
    }

    private static void due(TuneGates x, int rows, int ask, int leaves, int... could) {
        Check.fine(x, "rows", x.rows(), rows);
        Check.fine(x, "ask", x.ask(), ask);
        Check.fine(x, "askLeaves", x.askLeaves(), leaves);
        for (int k = 0; k < could.length; k++) {
            Check.fine(x, "could " + k, x.could(k), could[k]);
            int one = Integer.bitCount(could[k]) == 1 ? Integer.numberOfTrailingZeros(could[k]) : -2;
            Check.fine(x, "surely " + k, x.surely(k), one);
        }
        for (int k : new int[] {-1, could.length, Integer.MAX_VALUE, Integer.MIN_VALUE}) {
            Check.refused(x, "could " + k, x.could(k), 1);
            Check.refused(x, "surely " + k, x.surely(k), 1);
        }
    }

    private static void nothingHeard() {
        due(Check.told(PLACES), 5, 0, 1, 31);
        due(Check.told("turnpike rain 0;place a"), 1, 0, 1, 1);
    }

    private static void oneHeard() {
        due(Check.told(PLACES + ";heard k"), 4, 0, 1, 15, 15);
        due(Check.told(PLACES + ";heard l"), 4, 0, 2, 14, 14);
    }

    private static void severalHeard() {
        // k then l: a b c, a b d, c d b, d c b
        due(Check.told(PLACES + ";heard k;heard l"), 4, 0, 2, 13, 14, 14);
        // l then k: c b a, d b a, b c d, b d c
        due(Check.told(PLACES + ";heard l;heard k"), 4, 0, 2, 14, 14, 13);
        // k l l: a b c b, a b d b, c d b c, c d b d, d c b c, d c b d
        due(Check.told(PLACES + ";heard k;heard l;heard l"), 6, 0, 2, 13, 14, 14, 14);
        // l l: b c b, b d b, c b c, c b d, d b c, d b d
        due(Check.told(PLACES + ";heard l;heard l"), 6, 0, 2, 14, 14, 14);
        // a path of three gates, all of one tune
        String path = "turnpike rain 0;tune k ab;tune l ab;place a;place b;place c;place d;road a b minutes 1"
            + ";road a c minutes 1;road a d minutes 1;gate a b deaf k;gate a c deaf k;gate a d deaf k";
        due(Check.told(path + ";heard k"), 6, 0, 3, 15, 15);
        // from a to one and back, or from one by a to one: the middle place tells little
        due(Check.told(path + ";heard k;heard k"), 12, 0, 3, 15, 15, 15);
        String fork = "turnpike rain 0;tune k ab;tune l ab;place a;place b;place c;place d;road a b minutes 1"
            + ";road b c minutes 1;road b d minutes 1;gate a b deaf k;gate b c deaf l;gate b d deaf l";
        due(Check.told(fork + ";heard k;heard l"), 2, 2, 1, 1, 2, 12);
        due(Check.told(fork + ";heard l;heard k"), 2, 0, 1, 12, 2, 1);
        due(Check.told(fork + ";heard k;heard k;heard k;heard k;heard k"), 2, 0, 1, 3, 3, 3, 3, 3, 3);
    }

    private static void noRows() {
        String apart = "turnpike rain 0;tune k ab;tune l ab;place a;place b;place c;place d;road a b minutes 1"
            + ";road c d minutes 1;gate a b deaf k;gate c d deaf l";
        due(Check.told(apart + ";heard k;heard l"), 0, -2, -2, 0, 0, 0);
        due(Check.told("turnpike rain 0;tune k ab;place a;place b;road a b minutes 1;heard k"), 0, -2, -2, 0, 0);
    }

    private static void suspects() {
        String people = ";person v at a coins 9;person w at a coins 9;person x at a coins 9;knows v k;knows w k;knows w l"
            + ";inn a sells l price 0;inn a forges l price 0";
        TuneGates x = Check.told(PLACES + people + ";heard k;heard l;heard k");
        Check.fine(x, "suspect", x.suspect(), 1);
        x.buy(0, 1);
        Check.fine(x, "suspect, not by a forged one", x.suspect(), 1);
        x.buy(0, 0);
        Check.fine(x, "suspect, by what he bought", x.suspect(), 0);
        Check.fine(Check.told(PLACES + people), "suspect of nothing", Check.told(PLACES + people).suspect(), 0);
        x = Check.told(PLACES + ";person v at a coins 9;knows v k;heard l");
        Check.fine(x, "suspect, nobody", x.suspect(), -2);
        x = Check.told(PLACES);
        Check.fine(x, "suspect without people", x.suspect(), -2);
        x = Check.told(PLACES + ";person v at a coins 9;person w at a coins 9;knows w l;heard l");
        Check.fine(x, "suspect", x.suspect(), 1);
        x.teach(1, 0, 1);
        Check.fine(x, "suspect, by what he was taught", x.suspect(), 0);
    }

    private static void refusals() {
        TuneGates x = new TuneGates();
        Check.refused(x, "rows", x.rows(), 1);
        Check.refused(x, "could", x.could(0), 1);
        Check.refused(x, "surely", x.surely(0), 1);
        Check.refused(x, "ask", x.ask(), 1);
        Check.refused(x, "askLeaves", x.askLeaves(), 1);
        Check.refused(x, "suspect", x.suspect(), 1);
    }
}
