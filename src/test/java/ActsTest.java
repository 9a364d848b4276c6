import java.util.NoSuchElementException;

/** Promises 43 to 52: go, buy, teach, rain, undo, mark, back, led, size, trouble. */
public final class ActsTest {
    private static final String TEXT = "turnpike rain 30;tune k ab;tune l cd;place a;place b;place c;road a b minutes 5"
        + ";road b c minutes 7;gate b c strict k;inn a sells k price 4;inn a forges k price 3;inn b sells l price 7"
        + ";person x at a coins 7;person y at a coins 0;person z at c coins 9;knows y l;knows z k;heard k";

    public static void main(String[] args) {
        go();
        buy();
        teach();
        rain();
        undo();
        sixteenActs();
        marks();
        led();
        sizes();
        refusals();
        Check.end("ActsTest");
    }

    private static void person(TuneGates x, int who, int... parts) {
        for (int what = 0; what < parts.length; what++) {
            Check.fine(x, "person " + who + " " + what, x.person(who, what), parts[what]);
        }
    }

    private static void go() {
        TuneGates x = Check.told(TEXT);
        Check.fine(x, "go", x.go(0, 1), 5);
        person(x, 0, 1, 7, 0, 0, 5);
        Check.refused(x, "go through a gate", x.go(0, 2), 5);
        Check.refused(x, "go where he is", x.go(0, 1), 5);
        Check.fine(x, "go back", x.go(0, 0), 10);
        Check.refused(x, "go where no road goes", x.go(0, 2), 5);
        Check.fine(x, "go by a tune", x.go(2, 1), 7);
        x.rain(true);
        Check.refused(x, "go in rain", x.go(2, 2), 5);
        Check.due("refused acts aren't kept", x.size(10), 4);
        person(x, 2, 1, 9, 1, 0, 7);
        person(x, 1, 0, 0, 2, 0, 0);
    }

    private static void buy() {
        TuneGates x = Check.told(TEXT);
        Check.refused(x, "buy where he isn't", x.buy(0, 2), 5);
        Check.refused(x, "buy with too few coins", x.buy(1, 0), 6);
        Check.fine(x, "buy", x.buy(0, 0), 3);
        person(x, 0, 0, 3, 1, 0, 0);
        Check.refused(x, "buy what he has", x.buy(0, 0), 5);
        Check.fine(x, "buy a forged one beside it", x.buy(0, 1), 0);
        person(x, 0, 0, 0, 1, 1, 0);
        Check.refused(x, "buy a forged one again", x.buy(0, 1), 5);
        Check.fine(x, "go", x.go(0, 1), 5);
        Check.refused(x, "buy without coins", x.buy(0, 2), 6);
        x.go(1, 1);
        Check.refused(x, "what he has comes ahead of the coins", x.buy(1, 2), 5);
        Check.due("refused acts aren't kept", x.size(10), 4);
    }

    private static void teach() {
        TuneGates x = Check.told(TEXT);
        Check.refused(x, "teach what he doesn't know", x.teach(0, 1, 0), 5);
        Check.refused(x, "teach one elsewhere", x.teach(1, 2, 1), 5);
        Check.due("teach", x.teach(1, 0, 1), true);
        Check.due("trouble", x.trouble(), 0);
        person(x, 0, 0, 7, 2, 0, 0);
        person(x, 1, 0, 0, 2, 0, 0);
        Check.refused(x, "teach one who knows it", x.teach(1, 0, 1), 5);
        x.buy(0, 1);
        Check.refused(x, "teach a forged one", x.teach(0, 1, 0), 5);
        person(x, 0, 0, 4, 2, 1, 0);
        x.buy(0, 0);
        person(x, 0, 0, 0, 3, 1, 0);
        Check.due("teach what one bought", x.teach(0, 1, 0), true);
        Check.refused(x, "teach oneself", x.teach(0, 0, 1), 1);
        Check.refused(x, "teach nobody", x.teach(0, 3, 1), 1);
        Check.refused(x, "nobody teaches", x.teach(-1, 0, 1), 1);
        Check.refused(x, "teach nothing", x.teach(1, 0, 2), 1);
    }

    private static void rain() {
        TuneGates x = Check.told(TEXT);
        Check.refused(x, "it doesn't rain", x.rain(false), 5);
        Check.due("rain", x.rain(true), true);
        Check.due("trouble", x.trouble(), 0);
        Check.due("it rains", x.size(9), 1);
        Check.due("sung in rain", x.sung(0, 1, false), 0);
        Check.refused(x, "it rains", x.rain(true), 5);
        Check.due("not", x.rain(false), true);
        Check.due("it doesn't rain", x.size(9), 0);
        Check.due("acts", x.size(10), 2);
    }

    private static void undo() {
        TuneGates x = Check.told(TEXT);
        Check.refused(x, "nothing to undo", x.undo(), 6);
        x.buy(0, 1);
        x.teach(1, 0, 1);
        x.go(0, 1);
        x.rain(true);
        Check.due("acts", x.size(10), 4);
        Check.due("undo rain", x.undo(), true);
        Check.due("trouble", x.trouble(), 0);
        Check.due("no rain", x.size(9), 0);
        person(x, 0, 1, 4, 2, 1, 5);
        Check.due("undo go", x.undo(), true);
        person(x, 0, 0, 4, 2, 1, 0);
        Check.due("undo teach", x.undo(), true);
        person(x, 0, 0, 4, 0, 1, 0);
        Check.due("undo buy", x.undo(), true);
        person(x, 0, 0, 7, 0, 0, 0);
        Check.refused(x, "no more to undo", x.undo(), 6);
        Check.fine(x, "an act behind undoing", x.go(0, 1), 5);
        Check.due("acts", x.size(10), 1);
    }

    private static void sixteenActs() {
        TuneGates x = Check.told(TEXT);
        for (int act = 1; act <= 40; act++) {
            x.go(0, act % 2);
            Check.due("acts", x.size(10), Math.min(act, 16));
        }
        for (int act = 39; act >= 24; act--) {
            Check.due("undo", x.undo(), true);
            person(x, 0, act % 2, 7, 0, 0, 5 * act);
        }
        Check.refused(x, "sixteen are kept", x.undo(), 6);
        Check.due("acts", x.size(10), 0);
    }

    private static void marks() {
        TuneGates x = Check.told(TEXT);
        Check.fine(x, "mark", x.mark(), 0);
        x.go(0, 1);
        x.rain(true);
        Check.fine(x, "a second mark", x.mark(), 1);
        Check.due("a mark can't be undone", x.size(10), 2);
        x.go(0, 0);
        x.buy(0, 1);
        Check.fine(x, "a third mark", x.mark(), 2);
        Check.refused(x, "no more marks", x.mark(), 3);
        Check.due("marks", x.size(11), 3);
        Check.due("back", x.back(1), true);
        Check.due("trouble", x.trouble(), 0);
        person(x, 0, 1, 7, 0, 0, 5);
        Check.due("it rains", x.size(9), 1);
        Check.due("nothing can be undone", x.size(10), 0);
        Check.refused(x, "undo", x.undo(), 6);
        Check.due("all marks stay", x.size(11), 3);
        Check.due("back to a later one", x.back(2), true);
        person(x, 0, 0, 4, 0, 1, 10);
        Check.due("back to the first", x.back(0), true);
        person(x, 0, 0, 7, 0, 0, 0);
        Check.due("no rain", x.size(9), 0);
        x.go(0, 1);
        Check.due("an act behind it", x.size(10), 1);
        Check.due("undo", x.undo(), true);
        Check.due("back, once more", x.back(0), true);
        for (int bad : new int[] {-1, 3, Integer.MAX_VALUE, Integer.MIN_VALUE}) {
            Check.refused(x, "no such mark", x.back(bad), 1);
        }
        x.feed(1, 2, 3, 4, 5);
        x.back(0);
        Check.due("the tape stays", x.size(12), 20);
        TuneGates y = Check.told(TEXT);
        Check.refused(y, "back without marks", y.back(0), 1);
        y.go(0, 1);
        y.mark();
        Check.due("undo ahead of a mark", y.undo(), true);
        person(y, 0, 0, 7, 0, 0, 0);
        Check.due("the mark stays", y.back(0), true);
        person(y, 0, 1, 7, 0, 0, 5);
    }

    private static void led(TuneGates x, int i, int want) {
        int got = -9;
        try {
            got = x.led(i);
        } catch (NoSuchElementException none) {
            got = -1;
        }
        Check.due("led " + i, got, want);
    }

    private static void led() {
        TuneGates x = Check.told("turnpike rain 0;tune k ab;tune l ab;place a;inn a forges l price 1;inn a sells k price 1"
            + ";person v at a coins 9;person w at a coins 9;person y at a coins 9;person z at a coins 9;knows v k");
        led(x, 0, -1);
        x.buy(3, 0);
        x.buy(1, 0);
        x.buy(2, 1);
        x.turnpike(5);
        led(x, 0, 1);
        led(x, 1, 3);
        led(x, 2, -1);
        led(x, -1, -1);
        led(x, Integer.MAX_VALUE, -1);
        led(x, Integer.MIN_VALUE, -1);
        Check.due("led has no trouble", x.trouble(), 2);
        x.undo();
        x.undo();
        led(x, 0, 3);
        led(x, 1, -1);
        led(new TuneGates(), 0, -1);
    }

    private static void sizes() {
        TuneGates x = Check.told(TEXT);
        int[] due = {30, 2, 3, 2, 1, 3, 3, 2, 1, 0, 0, 0, 0};
        for (int what = 0; what < due.length; what++) {
            Check.due("size " + what, x.size(what), due[what]);
        }
        for (int bad : new int[] {-1, 13, Integer.MAX_VALUE, Integer.MIN_VALUE}) {
            Check.due("size " + bad, x.size(bad), -1);
        }
        Check.due("size has no trouble", x.trouble(), 0);
        x.buy(0, 0);
        Check.due("known as told", x.size(7), 2);
        x.feed(1, 2, 3, 4, 5);
        Check.due("bytes of the tape", x.size(12), 20);
    }

    private static void refusals() {
        TuneGates x = Check.told(TEXT);
        for (int bad : new int[] {-1, 3, Integer.MAX_VALUE, Integer.MIN_VALUE}) {
            Check.refused(x, "go of nobody", x.go(bad, 0), 1);
            Check.refused(x, "go nowhere", x.go(0, bad), 1);
            Check.refused(x, "buy of nobody", x.buy(bad, 0), 1);
            Check.refused(x, "buy nowhere", x.buy(0, bad), 1);
        }
        Check.due("trouble is not refused itself", x.trouble(), 1);
        x.reach(0);
        Check.due("trouble of the latest", x.trouble(), 0);
        TuneGates none = new TuneGates();
        Check.refused(none, "go", none.go(0, 0), 1);
        Check.refused(none, "buy", none.buy(0, 0), 1);
        Check.refused(none, "teach", none.teach(0, 1, 0), 1);
        Check.refused(none, "rain", none.rain(true), 1);
        Check.refused(none, "not rain", none.rain(false), 1);
        Check.refused(none, "undo", none.undo(), 6);
        Check.refused(none, "mark", none.mark(), 1);
        Check.refused(none, "back", none.back(0), 1);
    }
}
