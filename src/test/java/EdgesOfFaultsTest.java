/** Terms I, the FAULTS and their places, sentence by sentence; then promises 1 to 5. */
public final class EdgesOfFaultsTest {
    private static final String BASE = "turnpike rain 5;tune t ab;place a;place b;road a b minutes 5";
    private static final String PERSON = ";person p at a coins 5";
    private static final int BLANKS = 0x20202020;

    public static void main(String[] args) {
        firstFromTheLeft();
        leastNumber();
        form();
        formOfEveryToken();
        theEnd();
        untold();
        again();
        bounds();
        many();
        lacks();
        notes();
        roadless();
        newObject();
        feed();
        turnpike();
        turnpikeRefused();
        faultOfTheLatest();
        where();
        Sentence.end("EdgesOfFaultsTest");
    }

    private static void fault(String marked, int number) {
        TextTest.fault(marked, number);
    }

    private static void good(String text, int places) {
        TextTest.good(text, places);
    }

    private static void firstFromTheLeft() {
        Sentence.is("FAULTS, the first that is met from the left");
        fault("turnpike rain ^101;place a;place a;#", 4);
        fault("turnpike rain 5;place a;place ^a;#", 3);
        fault("turnpike rain 5;place a;^#;place a", 1);
        fault("turnpike rain 5;tune t ^a;place a;heard x", 7);
        fault("turnpike rain 5;tune t ab;heard ^x;tune u a", 2);
        fault(BASE + ";place c;gate a ^c odd x", 8);
        fault(BASE + ";road ^x y hours 500", 2);
        fault(BASE + ";road a ^x hours 500", 2);
        fault(BASE + ";gate a b ^odd x", 1);
        fault(BASE + ";inn a sells ^x cost 100", 2);
        fault(BASE + ";inn a sells t ^cost 100", 1);
        fault(BASE + ";person ^a in x coin 1000", 3);
        fault(BASE + ";heard t;heard t;heard t;heard t;heard ^x;heard t", 2);
        fault("^place a;place a;turnpike rain 500", 6);
    }

    private static void leastNumber() {
        Sentence.is("of one place the least number");
        // FORM, not untold or of another sort
        fault(BASE + ";heard ^place", 1);
        // FORM, not out of bounds
        fault("turnpike rain ^1000;place a", 1);
        // FORM, not LACKS: at the end there is no place either
        fault("turnpike rain 5;^", 1);
        fault("turnpike rain ^", 1);
        fault("turnpike^", 1);
        // FORM, not NOTES
        fault("turnpike rain 5;tune t ^;place a", 1);
        // untold, not without a road
        fault(BASE + ";gate a ^c strict t", 2);
        fault(BASE + ";gate a ^t strict t", 2);
        // the first PLACE again, not without a road
        fault("turnpike rain 5;place a;gate a ^a", 3);
        // the first PLACE again, not a road already
        fault(BASE + ";road a ^a minutes 5", 3);
        // a second turnpike, not MANY
        fault("turnpike rain 5;^turnpike rain 5", 3);
    }

    private static void form() {
        Sentence.is("1 FORM: the first byte that begins no TOKEN, or TOKEN with which no ROAD goes on");
        fault("^#", 1);
        fault("^\u0000", 1);
        fault("^\u00ff", 1);
        fault("turnpike rain 5;place a^\u0000", 1);
        fault("turnpike rain 5;place a^\n;place b", 1);
        fault("turnpike rain 5;place ^A", 1);
        fault("^hello", 1);
        fault("^rain 5", 1);
        fault("^5", 1);
        fault("turnpike ^5", 1);
        fault("turnpike ^;", 1);
        fault("turnpike ^turnpike", 1);
        fault("turnpike rain 5 ^5", 1);
        fault("turnpike rain 5;^rain 5", 1);
        fault("turnpike rain 5;place a ;^;", 1);
    }

    /** Each LINE's TOKENS one by one, exchanged for what can't stand there; = a WORD, # a WHOLE, a NAME else. */
    private static void formOfEveryToken() {
        String[] lines = {"road a c =minutes #5", "gate a b =strict t", "inn a =sells t =price #5",
            "inn a =forges t =price #5", "person +q =at a =coins #5", "knows p t", "heard t", "place +z", "tune +z ?ab"};
        for (String line : lines) {
            String[] tokens = line.split(" ");
            String text = BASE + ";place c" + PERSON + ";" + tokens[0];
            for (int i = 1; i < tokens.length; i++) {
                exchange(text, tokens[i]);
                text += " " + tokens[i].replaceAll("[=#+?]", "");
            }
            good(text, line.startsWith("place") ? 4 : 3);
            fault(text + " ^t", 1);
            fault(text + " ^5", 1);
            fault(text + ";^", 1);
        }
    }

    private static void exchange(String ahead, String token) {
        for (String never : new String[] {";", "#", "abcdefghi", "1000", ""}) {
            fault(ahead + " ^" + never, 1);
        }
        switch (token.charAt(0)) {
            case '=' -> {
                fault(ahead + " ^zz", 1);
                fault(ahead + " ^5", 1);
                fault(ahead + " ^place", 1);
            }
            case '#' -> {
                fault(ahead + " ^zz", 1);
                fault(ahead + " ^place", 1);
            }
            case '?' -> {
                fault(ahead + " ^5", 1);
                fault(ahead + " ^zz", 7);
                fault(ahead + " ^place", 7);
            }
            case '+' -> {
                fault(ahead + " ^5", 1);
                fault(ahead + " ^place", 1);
                fault(ahead + " ^a", 3);
            }
            default -> {
                fault(ahead + " ^5", 1);
                fault(ahead + " ^place", 1);
                fault(ahead + " ^zz", 2);
            }
        }
    }

    private static void theEnd() {
        Sentence.is("(the end: its place)");
        String text = "turnpike rain 5;place a";
        int[] wheres = {0, 0, 0, 0, 0, 0, 0, 0, 8, 9, 9, 9, 9, 13, 14, 15, 16, 16, 16, 16, 16, 21, 22};
        for (int n = 0; n < wheres.length; n++) {
            fault(text.substring(0, wheres[n]) + "^" + text.substring(wheres[n], n), n == 15 ? 6 : 1);
            TuneGates x = new TuneGates();
            Check.feed(x, text);
            Check.refused(x, "the first bytes of more", x.turnpike(n), 4);
            Check.due("where of " + n, x.where(), wheres[n]);
        }
        good(text, 1);
        fault("turnpike rain    ^", 1);
        fault("turnpike rain 5;place a;    ^", 1);
        fault("turnpike rain 5" + " ".repeat(985) + "^", 6);
    }

    private static void untold() {
        Sentence.is("2 a NAME that isn't told, or is of another sort than must stand there; at it.");
        String text = BASE + PERSON;
        String[] slots = {"road * a minutes 5|place", "road a * minutes 5|place", "gate * b strict t|place",
            "gate a * strict t|place", "gate a b strict *|tune", "inn * sells t price 5|place", "inn a sells * price 5|tune",
            "inn a forges * price 5|tune", "person q at * coins 5|place", "knows * t|person", "knows p *|tune", "heard *|tune"};
        for (String slot : slots) {
            String line = slot.substring(0, slot.indexOf('|'));
            String sort = slot.substring(slot.indexOf('|') + 1);
            fault(text + ";" + line.replace("*", "^zz"), 2);
            fault(text + ";" + line.replace("*", "^aa"), 2);
            if (!sort.equals("tune")) {
                fault(text + ";" + line.replace("*", "^t"), 2);
            }
            if (!sort.equals("place")) {
                fault(text + ";" + line.replace("*", "^a"), 2);
            }
            if (!sort.equals("person")) {
                fault(text + ";" + line.replace("*", "^p"), 2);
            }
        }
        fault(text + ";heard ^ab", 2);
        fault(text + ";heard ^rain", 2);
    }

    private static void again() {
        String text = BASE + PERSON;
        Sentence.is("3 a NAME told again; at it;");
        for (String name : new String[] {"t", "a", "b", "p"}) {
            fault(text + ";tune ^" + name + " ab", 3);
            fault(text + ";place ^" + name, 3);
            fault(text + ";person ^" + name + " at a coins 5", 3);
        }
        Sentence.is("a second PLACE that is the first, or to which there is a road, a gate already; at it;");
        fault(text + ";road a ^a minutes 5", 3);
        fault(text + ";road a ^b minutes 5", 3);
        fault(text + ";road b ^a minutes 5", 3);
        fault(text + ";gate b ^b strict t", 3);
        fault(text + ";gate a b strict t;gate a ^b strict t", 3);
        fault(text + ";gate a b strict t;gate b ^a strict t", 3);
        good(text + ";place c;road a c minutes 5;road c b minutes 5;gate a b strict t;gate a c strict t", 3);
        Sentence.is("a TUNE that this PERSON knows already; at it;");
        fault(text + ";knows p t;knows p ^t", 3);
        good(text + ";tune u ab;person q at a coins 5;knows p t;knows p u;knows q t", 2);
        Sentence.is("a second turnpike: at that WORD.");
        fault("turnpike rain 5;^turnpike", 3);
        fault("turnpike rain 5; ^turnpike rain 5;place a", 3);
        fault(text + ";^turnpike #", 3);
        fault("turnpike rain 5;place a ^turnpike", 1);
    }

    private static void bounds() {
        Sentence.is("4 a WHOLE out of bounds; at it.");
        fault("turnpike rain ^101", 4);
        fault("turnpike rain   ^999;place a", 4);
        fault("turnpike rain 5;place a;place b;road a b minutes ^0", 4);
        fault("turnpike rain 5;place a;place b;road a b minutes ^00", 4);
        fault("turnpike rain 5;place a;place b;road a b minutes ^100;place a", 4);
        fault(BASE + ";inn a sells t price ^100", 4);
        fault(BASE + ";inn a forges t price ^100", 4);
        good("turnpike rain 100;tune t ab;place a;place b;road a b minutes 99;inn a sells t price 99"
            + ";inn a forges t price 99;person p at a coins 999", 2);
        good("turnpike rain 0;tune t ab;place a;place b;road a b minutes 1;inn a sells t price 0"
            + ";inn a forges t price 0;person p at a coins 0", 2);
    }

    private static void many() {
        Sentence.is("5 MANY: a LINE more of its sort than there is room for, at its first WORD.");
        String text = EdgesOfTextTest.full();
        for (String word : new String[] {"tune", "place", "road", "inn", "person", "knows", "heard"}) {
            fault(text + ";^" + word, 5);
            fault(text + " ; ^" + word + " ;", 5);
        }
        fault(text + ";^heard k;place a", 5);
        fault(text + ";^heardk", 1);
        fault(text + ";gate a ^b", 3);
    }

    private static void lacks() {
        Sentence.is("6 LACKS: any LINE ahead of the turnpike; at its WORD;");
        for (String word : new String[] {"tune", "place", "road", "gate", "inn", "person", "knows", "heard"}) {
            fault("^" + word, 6);
            fault("  ^" + word + " 5;turnpike rain 5", 6);
        }
        Sentence.is("at the end: no place.");
        fault("turnpike rain 5^", 6);
        fault("turnpike rain 5  ^", 6);
        fault("turnpike rain 5;tune t ab^", 6);
        good("turnpike rain 5;tune t ab;place a", 1);
    }

    private static void notes() {
        Sentence.is("7 NOTES: a WORD that is none such; at it.");
        for (String word : new String[] {"a", "g", "h", "ah", "hb", "abch", "abcdefgh", "tune", "rain"}) {
            fault("turnpike rain 5;tune t   ^" + word + ";place a", 7);
        }
        for (String word : new String[] {"ab", "ga", "deaf", "abcdefga"}) {
            good("turnpike rain 5;tune t " + word + ";place a", 1);
        }
        good("turnpike rain 5;tune ab ab;tune gab ab;place a", 1);
        fault("turnpike rain 5;tune t ^t;place a", 7);
    }

    private static void roadless() {
        Sentence.is("8 a second PLACE of a gate to which there is no road; at it.");
        fault("turnpike rain 5;place a;place b;gate a ^b", 8);
        fault(BASE + ";place c;gate a ^c strict t", 8);
        fault(BASE + ";place c;road b c minutes 5;gate c ^a #", 8);
        good(BASE + ";place c;road b c minutes 5;gate c b strict t", 3);
    }

    private static void newObject() {
        Sentence.is("No ROAD.");
        TuneGates x = new TuneGates();
        Check.due("trouble", x.trouble(), 0);
        Check.due("fault", x.fault(), 0);
        Check.due("where", x.where(), -1);
        for (int what = 0; what <= 12; what++) {
            Check.due("size " + what, x.size(what), 0);
        }
        Check.due("led", Scene.led(x, 0), -1);
        Check.due("trouble is as it was", x.trouble(), 0);
        TuneGates y = new TuneGates();
        Check.refused(y, "an empty tape", y.turnpike(0), 4);
        Check.due("fault of it", y.fault(), 1);
        Check.due("where of it", y.where(), 0);
        Check.refused(y, "no place yet", y.soonest(0), 1);
    }

    private static void feed() {
        Sentence.is("Twenty bytes come behind THE TAPE, of each number the highest first: how many it has;");
        TuneGates x = new TuneGates();
        Check.due("feed", x.feed(0x7475726e, 0x70696b65, 0x20726169, 0x6e20393b, 0x706c6163), 20);
        Check.due("feed", x.feed(0x65206120, 0xff7f8001, Integer.MIN_VALUE, Integer.MAX_VALUE, -1), 40);
        Check.fine(x, "the bytes in their order", x.turnpike(24), 1);
        Check.due("the whole", x.size(0), 9);
        for (int byteAt = 0; byteAt < 20; byteAt++) {
            TuneGates y = new TuneGates();
            int[] five = {BLANKS, BLANKS, BLANKS, BLANKS, BLANKS};
            five[byteAt / 4] ^= (' ' ^ 255) << 24 - 8 * (byteAt % 4);
            y.feed(five[0], five[1], five[2], five[3], five[4]);
            Check.refused(y, "a byte of 255", y.turnpike(20), 4);
            Check.due("it is at", y.where(), byteAt);
        }
        Sentence.is("NONE, and none comes, if there would be more than 1,000.");
        TuneGates z = new TuneGates();
        Check.feed(z, "turnpike rain 5;place a;");
        for (int many = 60; many <= 1000; many += 20) {
            Check.due("feed", z.feed(BLANKS, BLANKS, BLANKS, BLANKS, BLANKS), many);
        }
        Check.due("one more", z.feed(0, 0, 0, 0, 0), -1);
        Check.due("one more again", z.feed(-1, -1, -1, -1, -1), -1);
        Check.due("it has as many", z.size(12), 1000);
        Check.due("no number is told of it", z.trouble(), 0);
        Check.refused(z, "all of it", z.turnpike(1000), 4);
        Check.due("nothing came into it", z.where(), 1000);
        Check.due("there is room again", z.feed(0, 0, 0, 0, 0), 20);
    }

    private static void turnpike() {
        Sentence.is("The first n bytes of THE TAPE (it is empty then) are the ROAD from now on");
        TuneGates x = new TuneGates();
        Check.feed(x, "turnpike rain 5;place a;place b;#");
        Check.fine(x, "the first bytes", x.turnpike(31), 2);
        Check.due("it is empty", x.size(12), 0);
        Check.due("a feed comes first then", x.feed(BLANKS, BLANKS, BLANKS, BLANKS, BLANKS), 20);
        Check.refused(x, "nothing is left of it", x.turnpike(20), 4);
        Check.due("but blanks", x.where(), 20);
        Check.due("by a FAULT it is empty, too", x.size(12), 0);
        Check.feed(x, "turnpike rain 5;place a;place b");
        Check.refused(x, "none of its bytes", x.turnpike(0), 4);
        Check.due("it is empty behind that", x.size(12), 0);
        String cut = "turnpike rain 100;place abc;place b;road abc b minutes 990";
        for (int n = 15; n <= 17; n++) {
            Check.feed(x, cut);
            Check.refused(x, "a WHOLE cut off, and no place", x.turnpike(n), 4);
            Check.due("no FORM, as 1 and 10 are WHOLES, too", x.fault(), 6);
            Check.due("at the end", x.where(), n);
        }
        Check.feed(x, cut);
        Check.fine(x, "a name cut off", x.turnpike(25), 1);
        Check.feed(x, cut);
        Check.fine(x, "a WHOLE cut off", x.turnpike(cut.length() - 1), 2);
        Check.due("is what stands there", x.road(0, 1), 99);
        onlyTheLatest();
        Sentence.is("(no RAIN; nothing to undo, no MARKS): how many places.");
        TuneGates y = moved();
        Check.fine(y, "a ROAD anew", Check.read(y, BASE + PERSON), 2);
        Check.due("no RAIN", y.size(9), 0);
        Check.due("nothing to undo", y.size(10), 0);
        Check.due("no MARKS", y.size(11), 0);
        Check.refused(y, "undo", y.undo(), 6);
        Check.refused(y, "back", y.back(0), 1);
        Check.due("he is where it is told", y.person(0, 0), 0);
        Check.due("no minutes", y.person(0, 4), 0);
        Check.fine(y, "a MARK is the first again", y.mark(), 0);
    }

    /** Nothing of an earlier text is in the ROAD, be it one that was read or one with a FAULT. */
    private static void onlyTheLatest() {
        TuneGates x = new TuneGates();
        String bare = "turnpike rain 0;place z;person v at z coins 0";
        for (String ahead : new String[] {EdgesOfTextTest.full(), EdgesOfTextTest.full() + ";#", BASE + PERSON + ";#"}) {
            for (int time = 0; time < 2; time++) {
                Check.read(x, ahead);
                Check.fine(x, "a ROAD of one place", Check.read(x, bare), 1);
                int[] sizes = {0, 0, 1, 0, 0, 0, 1, 0, 0, 0, 0, 0, 0};
                for (int what = 0; what < sizes.length; what++) {
                    Check.due("size " + what, x.size(what), sizes[what]);
                }
                for (int what = 0; what < 5; what++) {
                    Check.due("person " + what, x.person(0, what), 0);
                }
                Check.fine(x, "rows", x.rows(), 1);
                Check.fine(x, "reach", x.reach(0), 1);
            }
        }
        TuneGates y = new TuneGates();
        for (int time = 0; time < 4; time++) {
            Check.read(y, BASE + ";gate a b strict t;person q at b coins 0;person p at b coins 0;knows p t;heard t");
            Check.fine(y, "as told, each time", y.rows() * 100 + y.person(1, 2) * 10 + y.person(0, 2), 210);
            Check.fine(y, "nothing is told again", Check.read(y, BASE), 2);
            Check.fine(y, "without the gate", y.gate(0, 1, 0), -2);
            Check.fine(y, "without what was heard", y.rows(), 2);
        }
    }

    /** He is at b in rain, by two ACTS, with a MARK. */
    private static TuneGates moved() {
        TuneGates x = Check.told(BASE + PERSON);
        x.go(0, 1);
        x.rain(true);
        x.mark();
        return x;
    }

    private static void turnpikeRefused() {
        Sentence.is("NONE: 2 (THE TAPE stays);");
        for (int n : new int[] {-1, 41, 1000, 1001, Integer.MIN_VALUE, Integer.MAX_VALUE}) {
            TuneGates x = moved();
            Check.feed(x, "turnpike rain 7;place z");
            String before = Scene.state(x);
            Check.refused(x, "turnpike of " + n, x.turnpike(n), 2);
            Check.due("all stays", Scene.state(x).equals(before), true);
            Check.due("forty bytes", x.size(12), 40);
            Check.fine(x, "THE TAPE stays", x.turnpike(40), 1);
            Check.due("as it was", x.size(0), 7);
        }
        Sentence.is("4 (the ROAD stays).");
        TuneGates y = moved();
        String before = Scene.state(y);
        Check.refused(y, "a FAULT", Check.read(y, "turnpike rain 7;tune u cc;place z;person q at z coins 9;#"), 4);
        Check.due("all stays", Scene.state(y).equals(before), true);
        Check.due("the road", y.road(0, 1), 5);
        Check.due("the tune", y.length(0) * 10 + y.sung(0, 0, false), 20);
        Check.due("undo", y.undo(), true);
        Check.due("no rain", y.size(9), 0);
        Check.due("the MARK", y.back(0), true);
        Check.due("rain", y.size(9), 1);
        TuneGates none = new TuneGates();
        Check.refused(none, "a FAULT", Check.read(none, "turnpike rain 7;place z;#"), 4);
        Check.refused(none, "there is still none", none.rows(), 1);
        Check.due("and no place", none.size(2), 0);
    }

    private static void faultOfTheLatest() {
        Sentence.is("The FAULT of the latest turnpike() not refused by 2; 0 without one.");
        TuneGates x = new TuneGates();
        Check.due("of none", x.fault(), 0);
        x.turnpike(1);
        Check.due("of one refused by 2", x.fault(), 0);
        Check.read(x, "turnpike rain 101");
        Check.due("4", x.fault(), 4);
        x.turnpike(-1);
        Check.due("behind one refused by 2", x.fault(), 4);
        x.rows();
        x.undo();
        Check.due("behind other calls", x.fault(), 4);
        Check.read(x, "turnpike rain 10");
        Check.due("6", x.fault(), 6);
        Check.read(x, "turnpike rain 10;place a");
        Check.due("without one", x.fault(), 0);
        x.turnpike(1);
        Check.due("without one, behind one refused by 2", x.fault(), 0);
    }

    private static void where() {
        Sentence.is("Its place, if the latest call that may be refused was by 4; NONE else.");
        TuneGates x = new TuneGates();
        Check.due("of none", x.where(), -1);
        Check.read(x, "turnpike rain 101");
        Check.due("its place", x.where(), 14);
        Check.due("its place again", x.where(), 14);
        x.feed(0, 0, 0, 0, 0);
        x.fault();
        x.size(0);
        x.size(-1);
        x.trouble();
        Scene.led(x, 0);
        Check.due("behind calls that can't be refused", x.where(), 14);
        x.turnpike(21);
        Check.due("behind one by 2", x.where(), -1);
        Check.refused(x, "by 4 again", x.turnpike(1), 4);
        Check.due("at its place", x.where(), 0);
        x.undo();
        Check.due("behind one by 6", x.where(), -1);
        Check.read(x, "turnpike rain 10;place a");
        Check.due("behind a good one", x.where(), -1);
        Check.read(x, "turnpike rain 10;place a;");
        Check.due("by 4, with a ROAD", x.where(), 25);
        x.rows();
        Check.due("behind one that isn't refused", x.where(), -1);
    }
}
