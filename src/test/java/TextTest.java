/** Promises 1 to 5: a new object, feed, turnpike, fault, where; Terms I with all FAULTS. */
public final class TextTest {
    private static final String BASE = "turnpike rain 5;tune t ab;place a;place b;road a b minutes 5";

    public static void main(String[] args) {
        newObject();
        feed();
        turnpike();
        faultAndWhere();
        forms();
        names();
        wholes();
        rooms();
        lacks();
        gates();
        blanks();
        Check.end("TextTest");
    }

    /** The text's FAULT stands where the sign ^ is (it is taken out); the old ROAD stays. */
    static void fault(String marked, int number) {
        int at = marked.indexOf('^');
        String text = marked.substring(0, at) + marked.substring(at + 1);
        TuneGates x = Check.told("turnpike rain 77;place only");
        Check.refused(x, marked, Check.read(x, text), 4);
        Check.due("fault of " + marked, x.fault(), number);
        Check.due("where of " + marked, x.where(), at);
        Check.due("the rain stays by " + marked, x.size(0), 77);
        Check.due("the tape is empty by " + marked, x.size(12), 0);
    }

    static void good(String text, int places) {
        TuneGates x = new TuneGates();
        Check.fine(x, text, Check.read(x, text), places);
        Check.due("fault of " + text, x.fault(), 0);
        Check.due("where of " + text, x.where(), -1);
    }

    private static void newObject() {
        TuneGates x = new TuneGates();
        for (int what = 0; what <= 12; what++) {
            Check.due("size of a new object " + what, x.size(what), 0);
        }
        Check.due("trouble of a new object", x.trouble(), 0);
        Check.due("fault of a new object", x.fault(), 0);
        Check.due("where of a new object", x.where(), -1);
        Check.refused(x, "rows without a road", x.rows(), 1);
    }

    private static void feed() {
        TuneGates x = new TuneGates();
        for (int many = 20; many <= 1000; many += 20) {
            Check.due("feed", x.feed(0x20202020, 0x20202020, 0x20202020, 0x20202020, 0x20202020), many);
        }
        Check.due("feed beyond the room", x.feed(0, 0, 0, 0, 0), -1);
        Check.due("feed has no trouble", x.trouble(), 0);
        Check.due("none comes", x.size(12), 1000);
        Check.refused(x, "a thousand blanks", x.turnpike(1000), 4);
        Check.due("a thousand blanks end at", x.where(), 1000);
        Check.due("feed behind it", x.feed(1, 2, 3, 4, 5), 20);
        Check.due("feed is not among the calls that may be refused", x.where(), 1000);

        TuneGates y = new TuneGates();
        y.feed(0x7475726e, 0x70696b65, 0x20726169, 0x6e20393b, 0x706c6163);
        y.feed(0x65206120, 0xff000000, 0x80000000, 0, -1);
        Check.refused(y, "a byte of 255", y.turnpike(40), 4);
        Check.due("a byte of 255 is at", y.where(), 24);
        y.feed(0x7475726e, 0x70696b65, 0x20726169, 0x6e20393b, 0x706c6163);
        y.feed(0x65206120, 0xff000000, 0x80000000, 0, -1);
        Check.fine(y, "the highest byte comes first", y.turnpike(24), 1);
    }

    private static void turnpike() {
        TuneGates x = new TuneGates();
        Check.refused(x, "turnpike beyond the tape", x.turnpike(1), 2);
        Check.refused(x, "turnpike below none", x.turnpike(-1), 2);
        Check.refused(x, "turnpike of the most", x.turnpike(Integer.MAX_VALUE), 2);
        Check.feed(x, BASE);
        int fed = x.size(12);
        Check.refused(x, "turnpike of one more", x.turnpike(fed + 1), 2);
        Check.due("the tape stays", x.size(12), fed);
        Check.fine(x, "turnpike of some", x.turnpike(BASE.length()), 2);
        Check.due("the tape is empty", x.size(12), 0);

        TuneGates y = Check.told(BASE + ";person p at a coins 9;knows p t");
        y.rain(true);
        y.mark();
        y.go(0, 1);
        Check.fine(y, "a road anew", Check.read(y, "turnpike rain 8;place z;person q at z coins 3"), 1);
        Check.due("no rain", y.size(9), 0);
        Check.due("nothing to undo", y.size(10), 0);
        Check.due("no marks", y.size(11), 0);
        Check.refused(y, "undo", y.undo(), 6);
        Check.refused(y, "back", y.back(0), 1);
        int[] sizes = {8, 0, 1, 0, 0, 0, 1, 0, 0};
        for (int what = 0; what < sizes.length; what++) {
            Check.due("size anew " + what, y.size(what), sizes[what]);
        }
        Check.due("the person anew", y.person(0, 1), 3);
        Check.due("who knows nothing", y.person(0, 2), 0);

        TuneGates z = Check.told(BASE + ";person p at a coins 9");
        z.go(0, 1);
        z.mark();
        Check.refused(z, "a faulty road", Check.read(z, "turnpike rain 8;place z;road z z"), 4);
        Check.due("he is where he was", z.person(0, 0), 1);
        Check.due("the acts stay", z.size(10), 1);
        Check.due("the marks stay", z.size(11), 1);
        Check.due("the road stays", z.road(0, 1), 5);
        firstBytesAlone();
    }

    private static void firstBytesAlone() {
        String text = "turnpike rain 12;place abc;place ab;gate #";
        for (int n = 22; n <= text.length(); n++) {
            TuneGates x = new TuneGates();
            Check.feed(x, text);
            boolean good = n >= 24 && n <= 26 || n == 34 || n == 35;
            int places = x.turnpike(n);
            Check.due("the first " + n + " bytes have a place", places > 0, good);
            Check.due("nothing of the tape is left behind them", x.size(12), 0);
        }
        TuneGates y = new TuneGates();
        Check.feed(y, "turnpike rain 100;place aaaa");
        Check.refused(y, "a number cut off", y.turnpike(15), 4);
        Check.due("and no place", y.fault(), 6);
        Check.due("at the end", y.where(), 15);
        Check.feed(y, "turnpike rain 5;place a;place b;road a b minutes 990");
        Check.fine(y, "the number's first digits", y.turnpike(51), 2);
        Check.due("are the number", y.road(0, 1), 99);
        Check.feed(y, "turnpike rain 5;place abcdefghi");
        Check.fine(y, "the name's first letters", y.turnpike(30), 1);
    }

    private static void faultAndWhere() {
        TuneGates x = new TuneGates();
        Check.read(x, "turnpike rain 101");
        Check.due("fault", x.fault(), 4);
        Check.due("where", x.where(), 14);
        Check.due("size is not among the calls that may be refused", x.size(99), -1);
        Check.due("where still", x.where(), 14);
        x.rows();
        Check.due("where behind another refusal", x.where(), -1);
        Check.due("fault still", x.fault(), 4);
        x.turnpike(1);
        Check.due("fault behind a refusal by 2", x.fault(), 4);
        Check.due("where behind a refusal by 2", x.where(), -1);
        Check.read(x, "turnpike rain 1;place a");
        Check.due("fault of a good one", x.fault(), 0);
        Check.due("where of a good one", x.where(), -1);
    }

    private static void forms() {
        fault("^", 1);
        fault("   ^", 1);
        fault("^;", 1);
        fault("^5", 1);
        fault("^hello", 1);
        fault("^Turnpike rain 5", 1);
        fault("turnpike ^rian 5", 1);
        fault("turnpike rain ^", 1);
        fault("turnpike rain ^x", 1);
        fault("turnpike rain ^1000;place a", 1);
        fault("turnpike rain ^-5", 1);
        fault("turnpike rain 5^\t;place a", 1);
        fault("turnpike rain 5;^", 1);
        fault("turnpike rain 5; ^;place a", 1);
        fault("turnpike rain 5 ^place a", 1);
        fault("turnpike rain 5;place a ^b", 1);
        fault("turnpike rain 5;place a;^", 1);
        fault("turnpike rain 5;place ^;", 1);
        fault("turnpike rain 5;place ^7", 1);
        fault("turnpike rain 5;place ^abcdefghi", 1);
        fault("turnpike rain 5;place a^\u00e4", 1);
        fault("turnpike rain 5;^rain 5", 1);
        fault("turnpike rain 5;tune t ^5", 1);
        fault("turnpike rain 5;tune t ^abcdefgab", 1);
        fault("turnpike rain 5;tune t ^", 1);
        fault("turnpike rain 5;tune t ^a", 7);
        fault("turnpike rain 5;tune t ^abh", 7);
        fault("turnpike rain 5;tune t ^place", 7);
        fault(BASE + ";road a ^", 1);
        fault("turnpike rain 5;place a;place b;road a b ^hours 5", 1);
        fault("turnpike rain 5;place a;place b;road a b minutes ^a", 1);
        fault(BASE + ";gate a b ^odd t", 1);
        fault(BASE + ";gate a b ^5 t", 1);
        fault(BASE + ";gate a b ^sells t", 1);
        fault(BASE + ";gate a b ^gate t", 1);
        fault(BASE + ";inn a ^buys t price 5", 1);
        fault(BASE + ";inn a sells t ^cost 5", 1);
        fault(BASE + ";inn a sells t price ^t", 1);
        fault(BASE + ";person p ^in a coins 5", 1);
        fault(BASE + ";person p at a ^coin 5", 1);
        fault(BASE + ";person p at a coins ^a", 1);
        fault(BASE + ";person p at a coins 5;knows p ^5", 1);
        fault(BASE + ";heard ^;", 1);
        fault("turnpike rain 5;place a;^#", 1);
    }

    private static void names() {
        String[] none = {"turnpike", "tune", "place", "road", "gate", "inn", "person", "knows", "heard"};
        for (String word : none) {
            fault("turnpike rain 5;place ^" + word, 1);
            fault("turnpike rain 5;tune ^" + word + " ab", 1);
            fault(BASE + ";person ^" + word + " at a coins 5", 1);
            fault(BASE + ";heard ^" + word, 1);
            fault(BASE + ";road a ^" + word, 1);
        }
        String[] some = {"rain", "minutes", "strict", "kind", "deaf", "forgot", "sells", "forges", "price", "at",
            "coins", "a", "abcdefgh", "tunes", "tun"};
        for (String word : some) {
            good("turnpike rain 5;place " + word, 1);
        }
        good("turnpike rain 5;place at;place coins;road at coins minutes 5;person minutes at at coins 5", 2);
        fault("turnpike rain 5;place a;place ^a", 3);
        fault(BASE + ";place ^t", 3);
        fault(BASE + ";tune ^a ab", 3);
        fault(BASE + ";tune ^t ab", 3);
        fault(BASE + ";person ^b at a coins 5", 3);
        fault(BASE + ";person p at a coins 5;place ^p", 3);
        fault(BASE + ";road ^c a minutes 5", 2);
        fault(BASE + ";road ^t a minutes 5", 2);
        fault(BASE + ";road a ^t minutes 5", 2);
        fault(BASE + ";road a ^c minutes 5", 2);
        fault(BASE + ";gate ^c b strict t", 2);
        fault(BASE + ";gate a ^c strict t", 2);
        fault(BASE + ";gate a b strict ^a", 2);
        fault(BASE + ";inn ^t sells t price 5", 2);
        fault(BASE + ";inn a forges ^b price 5", 2);
        fault(BASE + ";person p at ^t coins 5", 2);
        fault(BASE + ";person p at ^p coins 5", 2);
        fault(BASE + ";knows ^t t", 2);
        fault(BASE + ";person p at a coins 5;knows p ^a", 2);
        fault(BASE + ";person p at a coins 5;knows p ^p", 2);
        fault(BASE + ";heard ^a", 2);
        fault("turnpike rain 5;place a;heard ^t;tune t ab", 2);
        fault(BASE + ";person p at a coins 5;knows p t;knows p ^t", 3);
        fault(BASE + ";^turnpike rain 5", 3);
        fault("turnpike rain 5;^turnpike", 3);
        good(BASE + ";person p at a coins 5;person q at a coins 5;knows p t;knows q t;heard t;heard t", 2);
    }

    private static void wholes() {
        good("turnpike rain 0;place a", 1);
        good("turnpike rain 100;place a", 1);
        good("turnpike rain 007;place a", 1);
        fault("turnpike rain ^101;place a", 4);
        fault("turnpike rain 5;place a;place b;road a b minutes ^0", 4);
        fault("turnpike rain 5;place a;place b;road a b minutes ^100", 4);
        good("turnpike rain 5;place a;place b;road a b minutes 1", 2);
        good("turnpike rain 5;place a;place b;road a b minutes 99", 2);
        fault(BASE + ";inn a sells t price ^100", 4);
        fault(BASE + ";inn a forges t price ^100", 4);
        good(BASE + ";inn a sells t price 0;inn a forges t price 99", 2);
        good(BASE + ";person p at a coins 0;person q at a coins 999", 2);
        fault(BASE + ";person p at a coins ^1000", 1);
    }

    private static void rooms() {
        fault("turnpike rain 5;tune a ab;tune b ab;tune c ab;tune d ab;tune e ab;tune f ab;^tune 5", 5);
        fault("turnpike rain 5;place a;place b;place c;place d;place e;place f;place g;^place a", 5);
        String five = "turnpike rain 5;tune t ab;place a;place b;place c;place d;place e";
        String ten = five + ";road a b minutes 1;road a c minutes 1;road a d minutes 1;road a e minutes 1"
            + ";road b c minutes 1;road b d minutes 1;road b e minutes 1;road c d minutes 1;road c e minutes 1"
            + ";road d e minutes 1";
        good(ten, 5);
        fault(ten + ";^road a a", 5);
        fault(ten.replace("place e", "place e;place f") + ";^road a f minutes 5", 5);
        String inns = ";inn a sells t price 1;inn a forges t price 1";
        good(BASE + inns.repeat(3), 2);
        fault(BASE + inns.repeat(3) + ";^inn a sells t price 1", 5);
        fault(BASE + inns.repeat(3) + ";^inn a forges t price 1", 5);
        String four = BASE + ";person p at a coins 1;person q at a coins 1;person r at a coins 1;person s at a coins 1";
        good(four, 2);
        fault(four + ";^person u at a coins 1", 5);
        String known = four + ";tune u ab;tune v ab;knows p t;knows q t;knows r t;knows s t;knows p u;knows q u"
            + ";knows r u;knows s u";
        good(known, 2);
        fault(known + ";^knows p v", 5);
        good(BASE + ";heard t".repeat(5), 2);
        fault(BASE + ";heard t".repeat(5) + ";^heard t", 5);
        String gates = ";gate a b deaf t;gate a c deaf t;gate a d deaf t;gate a e deaf t;gate b c deaf t"
            + ";gate b d deaf t;gate b e deaf t;gate c d deaf t;gate c e deaf t;gate d e deaf t";
        good(ten + gates, 5);
        fault(ten + gates + ";gate a ^b deaf t", 3);
    }

    private static void lacks() {
        String[] sorts = {"tune", "place", "road", "gate", "inn", "person", "knows", "heard"};
        for (String sort : sorts) {
            fault("^" + sort, 6);
            fault("  ^" + sort + " #", 6);
        }
        fault("^place a;turnpike rain 5", 6);
        fault("turnpike rain 5^", 6);
        fault("turnpike rain 5   ^", 6);
        fault("turnpike rain 5;tune t ab^", 6);
        fault("turnpike rain 5;tune t ab;^", 1);
    }

    private static void gates() {
        fault("turnpike rain 5;place a;place b;road a ^a minutes 5", 3);
        fault(BASE + ";road a ^b minutes 5", 3);
        fault(BASE + ";road b ^a minutes 5", 3);
        fault(BASE + ";gate a ^a strict t", 3);
        fault(BASE + ";gate a b strict t;gate a ^b strict t", 3);
        fault(BASE + ";gate a b strict t;gate b ^a strict t", 3);
        fault(BASE + ";place c;gate a ^c strict t", 8);
        good(BASE + ";gate b a forgot t", 2);
    }

    private static void blanks() {
        good("  turnpike   rain 5  ;  place   a  ", 1);
        good("turnpike rain5;place a", 1);
        good("turnpike rain 5;tune t ab;place a;place b;road a b minutes5;person p at a coins5", 2);
        TuneGates x = Check.told("turnpike rain 5;place ab;place b;road ab b minutes 7");
        Check.due("names are whole words", x.road(0, 1), 7);
    }
}
