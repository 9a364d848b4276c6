import java.util.ArrayList;
import java.util.Arrays;
import java.util.List;

/** Terms I, sentence by sentence: the bounds of THE TAPE, of TOKENS and of LINES. */
public final class EdgesOfTextTest {
    private static final String BASE = "turnpike rain 5;tune t ab;place a;place b;road a b minutes 5";
    private static final String WITH_PERSON = BASE + ";person p at a coins 5";
    private static final String[] NO_NAMES =
        {"turnpike", "tune", "place", "road", "gate", "inn", "person", "knows", "heard"};

    public static void main(String[] args) {
        tape();
        blanks();
        words();
        wholes();
        semicolons();
        rain();
        tunes();
        places();
        roads();
        gates();
        inns();
        people();
        known();
        heard();
        allAtOnce();
        names();
        Sentence.end("EdgesOfTextTest");
    }

    private static void fault(String marked, int number) {
        TextTest.fault(marked, number);
    }

    private static void good(String text, int places) {
        TextTest.good(text, places);
    }

    /** The LINES from one to so many are good, and one more is MANY, whatever stands behind its first WORD. */
    private static void room(String ahead, List<String> lines, int places, int sizeOf) {
        String text = ahead;
        for (int i = 0; i < lines.size() - 1; i++) {
            text += ";" + lines.get(i);
            TuneGates x = Check.told(text);
            Check.due("size " + sizeOf, x.size(sizeOf), i + 1);
        }
        good(text, places);
        String more = lines.get(lines.size() - 1);
        fault(text + ";^" + more, 5);
        String word = more.substring(0, more.indexOf(' '));
        fault(text + ";  ^" + word, 5);
        fault(text + ";^" + word + " 1000 #", 5);
        fault(text + ";^" + word + ";" + more, 5);
    }

    private static List<String> each(String line, String... of) {
        List<String> lines = new ArrayList<>();
        for (String one : of) {
            lines.add(line.replace("*", one));
        }
        return lines;
    }

    private static void tape() {
        Sentence.is("THE TAPE has 1,000 bytes");
        String head = "turnpike rain 5;place a;place ";
        String text = head + " ".repeat(999 - head.length()) + "b";
        Check.due("a text of all bytes", text.length(), 1000);
        good(text, 2);
        fault(head + " ".repeat(999 - head.length()) + "^#", 1);
        String digits = "turnpike rain 5;place a;person p at a coins ";
        good(digits + " ".repeat(997 - digits.length()) + "999", 1);
        fault(digits + " ".repeat(996 - digits.length()) + "^9999", 1);
        fault(head + " ".repeat(991 - head.length()) + "^abcdefghi", 1);
        fault(head + " ".repeat(1000 - head.length()) + "^", 1);
        TuneGates x = new TuneGates();
        Check.feed(x, text);
        Check.due("no more than these", x.feed(0, 0, 0, 0, 0), -1);
        Check.refused(x, "all but the last", x.turnpike(999), 4);
        Check.due("it ends where the last would be", x.where(), 999);
    }

    private static void blanks() {
        Sentence.is("blanks, 32, part TOKENS and mean nothing else");
        good("   turnpike   rain   5   ;   place   a   ", 1);
        good("turnpike rain5;place a;place b;road a b minutes99;person p at a coins0", 2);
        fault("turnpike rain 5;^pla ce a", 1);
        fault("turnpike rain 1 ^0;place a", 1);
        fault("turnpike rain 5;place a ^b", 1);
        fault("^turn pike rain 5;place a", 1);
        for (int sign = 0; sign < 256; sign++) {
            boolean letter = sign >= 'a' && sign <= 'z';
            String text = "turnpike rain 5;place a";
            if (sign == ' ' || letter) {
                good(text + (char) sign, 1);
            } else if (sign == ';') {
                fault(text + ";^", 1);
            } else {
                TuneGates x = new TuneGates();
                Check.refused(x, "byte " + sign, Check.read(x, text + (char) sign + ";place b"), 4);
                Check.due("fault by byte " + sign, x.fault(), 1);
                Check.due("where by byte " + sign, x.where(), text.length());
            }
        }
    }

    private static void words() {
        Sentence.is("WORDS of 1 to 8 small letters that stand together");
        good("turnpike rain 5;place a;place z;place zzzzzzzz;place abcdefgh", 4);
        good("turnpike rain 5;place abcdefga;place abcdefgb;place bbcdefga;place abcdefg;place aa;place a", 6);
        fault("turnpike rain 5;place ^abcdefghi", 1);
        fault("turnpike rain 5;place ^" + "a".repeat(900), 1);
        fault("^turnpikes rain 5", 1);
        fault("^turnpiketurnpike rain 5", 1);
        fault("^turnpik rain 5", 1);
        fault("turnpike ^raining 5", 1);
        fault("turnpike ^rainrain 5", 1);
        fault(BASE + ";road a ^abcdefghi minutes 5", 1);
        fault(BASE + ";tune u ^abcdefgab", 1);
        fault("turnpike rain 5;place a^B", 1);
        fault("turnpike rain 5;place ^`", 1);
        fault("turnpike rain 5;place a^{", 1);
    }

    private static void wholes() {
        Sentence.is("WHOLES of 1 to 3 digits that do");
        good("turnpike rain 5;place a", 1);
        good("turnpike rain 05;place a", 1);
        good("turnpike rain 005;place a", 1);
        fault("turnpike rain ^0005;place a", 1);
        fault("turnpike rain ^4294967301;place a", 1);
        fault("turnpike rain ^18446744073709551621;place a", 1);
        fault("turnpike rain ^" + "0".repeat(900) + "5", 1);
        fault("turnpike rain 5^/;place a", 1);
        fault("turnpike rain 5^:place a", 1);
        fault("turnpike rain ^+5;place a", 1);
        fault("turnpike rain ^-5;place a", 1);
        fault("turnpike rain 5^.0;place a", 1);
        fault(BASE + ";person p at a coins ^0999", 1);
        TuneGates x = Check.told("turnpike rain 100;place a;place b;road a b minutes 009;person p at a coins 999");
        Check.due("three digits", x.size(0), 100);
        Check.due("nothings ahead", x.road(0, 1), 9);
        Check.due("three nines", x.person(0, 1), 999);
    }

    private static void semicolons() {
        Sentence.is("single ones of ;): LINE {; LINE}");
        fault("^", 1);
        fault("     ^", 1);
        fault("^;turnpike rain 5;place a", 1);
        fault("turnpike rain 5;^;place a", 1);
        fault("turnpike rain 5 ; ^; place a", 1);
        fault("turnpike rain 5;place a;^", 1);
        fault("turnpike rain 5;place a ;  ^", 1);
        fault("turnpike rain 5;place a^,place b", 1);
        fault("turnpike rain 5 ^place a", 1);
        good("turnpike rain 5;place a;place b", 2);
        good("turnpike rain 5;place a ; place b", 2);
    }

    private static void rain() {
        Sentence.is("turnpike rain WHOLE (0 .. 100 in a hundred), ahead of all others");
        for (int rain : new int[] {0, 1, 99, 100}) {
            Check.due("rain", Check.told("turnpike rain " + rain + ";place a").size(0), rain);
        }
        fault("turnpike rain ^101;place a", 4);
        fault("turnpike rain ^999;place a", 4);
        fault("^place a;turnpike rain 5", 6);
    }

    private static void tunes() {
        Sentence.is("tune NAME NOTES (a WORD of 2 to 8 letters a to g; up to 6)");
        for (String notes : new String[] {"aa", "gg", "ag", "abcdefga", "gggggggg"}) {
            TuneGates x = Check.told("turnpike rain 5;place a;tune t " + notes);
            Check.due("length of " + notes, x.length(0), notes.length());
            for (int i = 0; i < notes.length(); i++) {
                Check.due("note " + i + " of " + notes, x.sung(0, i, false), notes.charAt(i) - 'a');
            }
        }
        for (String notes : new String[] {"a", "g", "h", "ah", "ha", "zz", "abcdefgh", "hbcdefga"}) {
            fault("turnpike rain 5;place a;tune t ^" + notes, 7);
        }
        fault("turnpike rain 5;place a;tune t ^abcdefgab", 1);
        room("turnpike rain 5;place a", each("tune * ab", "k", "l", "m", "n", "o", "p", "q"), 1, 1);
    }

    private static void places() {
        Sentence.is("place NAME (up to 7)");
        room("turnpike rain 5", each("place *", "a", "b", "c", "d", "e", "f", "g", "h"), 7, 2);
    }

    private static void roads() {
        Sentence.is("road PLACE PLACE minutes WHOLE (unlike; once in whatever order; 1 .. 99; up to 10)");
        String two = "turnpike rain 5;place a;place b";
        for (int minutes : new int[] {1, 2, 98, 99}) {
            Check.due("minutes", Check.told(two + ";road b a minutes " + minutes).road(0, 1), minutes);
        }
        fault(two + ";road a b minutes ^0", 4);
        fault(two + ";road a b minutes ^000", 4);
        fault(two + ";road a b minutes ^100", 4);
        fault(two + ";road a b minutes ^999", 4);
        fault(two + ";road a ^a minutes 5", 3);
        fault(two + ";road b ^b minutes 5", 3);
        fault(two + ";road a b minutes 5;road a ^b minutes 5", 3);
        fault(two + ";road a b minutes 5;road b ^a minutes 6", 3);
        room(two + ";place c;place d;place e;place f", each("road * minutes 5",
            "a b", "a c", "a d", "a e", "b c", "b d", "b e", "c d", "c e", "d e", "a f"), 6, 3);
    }

    private static void gates() {
        Sentence.is("gate PLACE PLACE KIND TUNE (on a road without one; KIND: strict, kind, deaf, or forgot)");
        String[] kinds = {"strict", "kind", "deaf", "forgot"};
        for (int kind = 0; kind < kinds.length; kind++) {
            TuneGates x = Check.told(BASE + ";gate b a " + kinds[kind] + " t");
            Check.due("kind", x.gate(0, 1, 0), kind);
            Check.due("gates", x.size(4), 1);
            fault(BASE + ";gate a b " + kinds[kind] + " t;gate a ^b strict t", 3);
            fault(BASE + ";gate a b " + kinds[kind] + " t;gate b ^a kind t", 3);
        }
        for (String none : new String[] {"odd", "stric", "strictt", "kinds", "rain", "sells", "t", "gate", "5", ";"}) {
            fault(BASE + ";gate a b ^" + none + " t", 1);
        }
        fault(BASE + ";place c;gate a ^c strict t", 8);
        fault(BASE + ";gate a ^a strict t", 3);
    }

    private static void inns() {
        Sentence.is("inn PLACE sells TUNE price WHOLE, or inn PLACE forges TUNE price WHOLE (0 .. 99; up to 6 of both)");
        for (String word : new String[] {"sells", "forges"}) {
            for (int price : new int[] {0, 1, 98, 99}) {
                TuneGates x = Check.told(BASE + ";inn b " + word + " t price " + price);
                Check.due("price", x.inn(0, 3), price);
                Check.due("forges", x.inn(0, 2), word.equals("forges") ? 1 : 0);
            }
            fault(BASE + ";inn a " + word + " t price ^100", 4);
            fault(BASE + ";inn a " + word + " t price ^999", 4);
        }
        room(BASE, each("inn a * t price 5", "sells", "sells", "sells", "sells", "sells", "sells", "sells"), 2, 5);
        room(BASE, each("inn a * t price 5", "forges", "forges", "forges", "forges", "forges", "forges", "forges"), 2, 5);
        room(BASE, each("inn a * t price 5", "forges", "sells", "forges", "sells", "forges", "sells", "forges"), 2, 5);
        room(BASE, each("inn a * t price 5", "sells", "forges", "forges", "forges", "forges", "forges", "sells"), 2, 5);
    }

    private static void people() {
        Sentence.is("person NAME at PLACE coins WHOLE (0 .. 999; up to 4)");
        for (int coins : new int[] {0, 1, 998, 999}) {
            Check.due("coins", Check.told(BASE + ";person p at b coins " + coins).person(0, 1), coins);
        }
        fault(BASE + ";person p at b coins ^1000", 1);
        room(BASE, each("person * at a coins 5", "p", "q", "r", "s", "u"), 2, 6);
    }

    private static void known() {
        Sentence.is("knows PERSON TUNE (each two once; up to 8)");
        String text = WITH_PERSON + ";person q at b coins 0;tune u ab;tune v ab;tune w ab;tune x ab";
        fault(text + ";knows p t;knows p ^t", 3);
        fault(text + ";knows p t;knows q t;knows q u;knows p ^t", 3);
        good(text + ";knows p t;knows q t;knows p u", 2);
        room(text, each("knows *", "p t", "p u", "p v", "p w", "q t", "q u", "q v", "q w", "q x"), 2, 7);
    }

    private static void heard() {
        Sentence.is("heard TUNE (of gates the stranger passed, one behind the other; up to 5)");
        room(BASE, each("heard *", "t", "t", "t", "t", "t", "t"), 2, 8);
        Check.due("nothing heard", Check.told(BASE).size(8), 0);
        good(BASE + ";heard t;heard t", 2);
    }

    /** Every sort of LINE as often as it may be, on all of THE TAPE. */
    static String full() {
        String text = "turnpike rain 50;" + String.join(";", each("tune *", "k ab", "l abc", "m cd", "n abcdefga", "o ga",
            "p abcdefgb")) + ";" + String.join(";", each("place *", "a", "b", "c", "d", "e", "f", "g"));
        text += ";" + String.join(";", each("road * minutes 9", "a b", "b c", "c d", "d e", "e f", "f g", "g a", "a c",
            "a d", "a e"));
        text += ";" + String.join(";", each("gate *", "a b strict k", "b c kind p", "c d deaf k", "d e strict p",
            "e f forgot k", "f g strict p", "g a kind k", "a c deaf p", "a d strict k", "a e strict p"));
        text += ";" + String.join(";", each("inn a sells * price 9", "k", "l", "m", "n", "o", "p"));
        text += ";" + String.join(";", each("person * at a coins 50", "w", "x", "y", "z"));
        text += ";" + String.join(";", each("knows *", "w k", "w l", "x k", "x l", "y k", "y l", "z k", "z l"));
        text += ";" + String.join(";", each("heard *", "k", "p", "k", "p", "k"));
        return text;
    }

    private static void allAtOnce() {
        Sentence.is("told as a text");
        String text = full() + " ".repeat(1000 - full().length());
        TuneGates x = new TuneGates();
        Check.fine(x, "all as often as may be", Check.read(x, text), 7);
        int[] sizes = {50, 6, 7, 10, 10, 6, 4, 8, 5, 0, 0, 0, 0};
        for (int what = 0; what < sizes.length; what++) {
            Check.due("size " + what, x.size(what), sizes[what]);
        }
        Naive model = new Naive(text);
        NaiveTest.compareAll(x, model);
        model.rains = x.rain(true);
        NaiveTest.compareAll(x, model);
        for (String sort : NO_NAMES) {
            int number = sort.equals("turnpike") ? 3 : sort.equals("gate") ? 1 : 5;
            fault(full() + (number == 1 ? ";gate ^" : ";^" + sort), number);
        }
    }

    private static void names() {
        Sentence.is("NAMES are WORDS but turnpike, tune, place, road, gate, inn, person, knows, heard");
        for (String word : NO_NAMES) {
            fault("turnpike rain 5;place ^" + word, 1);
            fault("turnpike rain 5;tune ^" + word + " ab", 1);
            fault(BASE + ";person ^" + word + " at a coins 5", 1);
            fault(BASE + ";road ^" + word + " a minutes 5", 1);
            fault(BASE + ";road a ^" + word + " minutes 5", 1);
            fault(BASE + ";gate a b strict ^" + word, 1);
            fault(WITH_PERSON + ";knows ^" + word + " t", 1);
            fault(WITH_PERSON + ";knows p ^" + word, 1);
            fault(BASE + ";heard ^" + word, 1);
        }
        String[] others = {"rain", "minutes", "strict", "kind", "deaf", "forgot", "sells", "forges", "price", "at", "coins"};
        for (String word : others) {
            good("turnpike rain 5;place " + word, 1);
        }
        good("turnpike rain 5;tune rain ab;place at;place coins;road at coins minutes 5;gate coins at kind rain"
            + ";inn at sells rain price 5;person price at at coins 5;knows price rain;heard rain", 2);
        Sentence.is("each told once, ahead of its use.");
        List<String> told = Arrays.asList("tune z ab", "place z", "person z at a coins 5");
        for (String one : told) {
            for (String again : told) {
                fault(BASE + ";" + one + ";" + again.replace("z", "^z"), 3);
            }
        }
        fault("turnpike rain 5;place a;road a ^b minutes 5;place b", 2);
        fault("turnpike rain 5;place a;heard ^t;tune t ab", 2);
        fault(BASE + ";knows ^p t;person p at a coins 5", 2);
        fault(BASE + ";person p at ^c coins 5;place c", 2);
        fault(BASE + ";person p at ^p coins 5", 2);
    }
}
