import java.util.ArrayList;
import java.util.List;

/** ACTS, UNDO and MARKS of the Terms, and promises 43 to 49, sentence by sentence. */
public final class EdgesOfActsTest {
    private static final Scene NOWHERE = Scene.withoutRoad();
    private static final Scene BARE = Scene.of("turnpike rain 0;place a");
    private static final Scene ALL = Scene.of("turnpike rain 30;tune k ab;tune l cd;place a;place b;place c"
        + ";road a b minutes 99;road b c minutes 1;gate b c strict k;inn a sells k price 4;inn a forges k price 3"
        + ";inn b sells l price 7;inn a sells l price 0;person w at a coins 7;person x at a coins 0;person y at b coins 999"
        + ";person z at b coins 6;knows x l;knows y k;knows z l;heard k");

    public static void main(String[] args) {
        acts();
        latestOfSixteen();
        ring();
        upToThreeMarks();
        nothingUndone();
        go();
        goRefused();
        buy();
        buyRefused();
        teach();
        teachRefused();
        rain();
        undo();
        mark();
        back();
        Sentence.end("EdgesOfActsTest");
    }

    private static void person(TuneGates x, int who, int... parts) {
        for (int what = 0; what < parts.length; what++) {
            Check.fine(x, "person " + who + " " + what, x.person(who, what), parts[what]);
        }
    }

    private static void acts() {
        Sentence.is("ACTS: GO (a person, by a road), BUY (at an inn where he is), TEACH (a tune that one knows another one"
            + " who is there; not a forged one), RAIN or not.");
        TuneGates x = ALL.made();
        List<String> states = new ArrayList<>();
        states.add(people(x));
        x.buy(0, 1);
        states.add(people(x));
        x.teach(1, 0, 1);
        states.add(people(x));
        x.go(0, 1);
        states.add(people(x));
        x.rain(true);
        states.add(people(x));
        x.rain(false);
        Check.due("each is one ACT", x.size(10), 5);
        for (int i = states.size() - 1; i >= 0; i--) {
            Check.due("undo " + i, x.undo(), true);
            Check.due("all is as ahead of act " + i, people(x).equals(states.get(i)), true);
        }
        ALL.after(y -> y.buy(0, 1)).denies(5, "not a forged one", y -> y.teach(0, 1, 0));
    }

    /** Without the size that tells how many ACTS there are. */
    private static String people(TuneGates x) {
        StringBuilder all = new StringBuilder().append(x.size(9));
        for (int who = 0; who < x.size(6); who++) {
            for (int what = 0; what < 5; what++) {
                all.append(' ').append(x.person(who, what));
            }
        }
        return all.toString();
    }

    private static void latestOfSixteen() {
        Sentence.is("UNDO: the latest (16 are kept).");
        for (int acts : new int[] {0, 1, 15, 16, 17, 31, 32, 33, 48, 49}) {
            TuneGates x = ALL.made();
            for (int act = 1; act <= acts; act++) {
                Check.due("go " + act, x.go(0, act % 2), 99 * act);
                Check.due("ACTS that can be undone", x.size(10), Math.min(act, 16));
            }
            for (int act = acts - 1; act >= Math.max(0, acts - 16); act--) {
                Check.due("undo", x.undo(), true);
                person(x, 0, act % 2, 7, 0, 0, 99 * act);
            }
            Check.refused(x, "no more than 16", x.undo(), 6);
            person(x, 0, Math.max(0, acts - 16) % 2, 7, 0, 0, 99 * Math.max(0, acts - 16));
        }
    }

    /** Where what is kept goes round: by doing and undoing a few at a time. */
    private static void ring() {
        Sentence.is("(16 are kept)");
        TuneGates x = ALL.made();
        int minutes = 0;
        List<Integer> kept = new ArrayList<>();
        for (int round = 0; round < 12; round++) {
            for (int i = 0; i < 5; i++) {
                kept.add(minutes);
                minutes = x.go(0, 1 - x.person(0, 0));
            }
            while (kept.size() > 16) {
                kept.remove(0);
            }
            for (int i = 0; i < 3; i++) {
                Check.due("undo", x.undo(), true);
                minutes = kept.remove(kept.size() - 1);
                Check.due("minutes", x.person(0, 4), minutes);
            }
            Check.due("ACTS that can be undone", x.size(10), kept.size());
        }
        while (!kept.isEmpty()) {
            Check.due("undo", x.undo(), true);
            Check.due("minutes", x.person(0, 4), kept.remove(kept.size() - 1));
        }
        Check.refused(x, "no more", x.undo(), 6);
    }

    private static void upToThreeMarks() {
        Sentence.is("MARKS: up to 3;");
        TuneGates x = ALL.made();
        for (int number = 0; number < 3; number++) {
            Check.due("marks", x.size(11), number);
            Check.fine(x, "mark", x.mark(), number);
            x.go(0, 1 - x.person(0, 0));
        }
        for (int more = 0; more < 2; more++) {
            Check.refused(x, "a fourth one", x.mark(), 3);
            Check.due("marks", x.size(11), 3);
        }
        for (int number : new int[] {2, 0, 1, 1, 2}) {
            Check.due("back to " + number, x.back(number), true);
            person(x, 0, number % 2, 7, 0, 0, 99 * number);
        }
    }

    private static void nothingUndone() {
        Sentence.is("gone back to one, nothing can be undone.");
        TuneGates x = ALL.made();
        x.go(0, 1);
        x.mark();
        for (int act = 0; act < 20; act++) {
            x.go(0, 1 - x.person(0, 0));
        }
        Check.due("back", x.back(0), true);
        Check.due("no ACT can be undone", x.size(10), 0);
        Check.refused(x, "undo", x.undo(), 6);
        person(x, 0, 1, 7, 0, 0, 99);
        x.go(0, 0);
        Check.due("an ACT behind it can be undone", x.size(10), 1);
        Check.due("undo", x.undo(), true);
        person(x, 0, 1, 7, 0, 0, 99);
        Check.refused(x, "no more", x.undo(), 6);
        Check.refused(x, "back to none such", x.back(1), 1);
        x.go(0, 0);
        Check.refused(x, "back to none such", x.back(-1), 1);
        Check.due("a refused one leaves the ACTS", x.size(10), 1);
    }

    private static void go() {
        Sentence.is("GO: minutes so far.");
        TuneGates x = ALL.does(99, "go", y -> y.go(0, 1));
        person(x, 0, 1, 7, 0, 0, 99);
        person(x, 1, 0, 0, 2, 0, 0);
        Check.due("one ACT", x.size(10), 1);
        TuneGates y = ALL.after(z -> z.go(0, 1)).does(198, "go back", z -> z.go(0, 0));
        person(y, 0, 0, 7, 0, 0, 198);
        ALL.does(1, "through a gate", z -> z.go(2, 2));
        ALL.after(z -> z.go(2, 2)).does(2, "and back", z -> z.go(2, 1));
        TuneGates z = ALL.made();
        for (int many = 1; many <= 200; many++) {
            z.go(0, many % 2);
        }
        Check.due("many minutes", z.person(0, 4), 19800);
    }

    private static void goRefused() {
        Sentence.is("NONE: 1; 5 (he is there, there is no road, he can't PASS).");
        ALL.refuses(5, "he is there", x -> x.go(0, 0));
        ALL.refuses(5, "there is no road", x -> x.go(0, 2));
        ALL.refuses(5, "he can't PASS", x -> x.go(3, 2));
        ALL.inRain().refuses(5, "he can't PASS in rain", x -> x.go(2, 2));
        ALL.after(x -> x.go(2, 2)).inRain().refuses(5, "nor back", x -> x.go(2, 1));
        for (int none : Scene.outside(4)) {
            ALL.refuses(1, "go of " + none, x -> x.go(none, 1));
        }
        for (int none : Scene.outside(3)) {
            ALL.refuses(1, "go to " + none, x -> x.go(0, none));
        }
        BARE.refuses(1, "without people", x -> x.go(0, 0));
        NOWHERE.refuses(1, "without a ROAD", x -> x.go(0, 0));
    }

    private static void buy() {
        Sentence.is("BUY: coins then.");
        TuneGates x = ALL.does(3, "buy", y -> y.buy(0, 0));
        person(x, 0, 0, 3, 1, 0, 0);
        Check.due("one ACT", x.size(10), 1);
        x = ALL.after(y -> y.buy(0, 0)).does(0, "a forged one beside it, by the last coins", y -> y.buy(0, 1));
        person(x, 0, 0, 0, 1, 1, 0);
        x = ALL.after(y -> y.buy(0, 1)).does(0, "the tune beside the forged one", y -> y.buy(0, 0));
        person(x, 0, 0, 0, 1, 1, 0);
        x = ALL.after(y -> y.go(0, 1)).does(0, "by all coins", y -> y.buy(0, 2));
        person(x, 0, 1, 0, 2, 0, 99);
        ALL.does(992, "by a few of many", y -> y.buy(2, 2));
        Scene poor = ALL.after(y -> y.buy(0, 0)).after(y -> y.buy(0, 1));
        poor.does(0, "for nothing without coins", y -> y.buy(0, 3));
    }

    private static void buyRefused() {
        Sentence.is("NONE: 1; 5 (he isn't there, has it already); 6 (too few coins).");
        ALL.refuses(5, "he isn't there", x -> x.buy(0, 2));
        ALL.after(x -> x.go(0, 1)).refuses(5, "he isn't there any more", x -> x.buy(0, 0));
        ALL.refuses(5, "has it already, as told", x -> x.buy(1, 3));
        ALL.after(x -> x.buy(0, 0)).refuses(5, "has it already, as bought", x -> x.buy(0, 0));
        ALL.after(x -> x.buy(0, 1)).refuses(5, "has the forged one already", x -> x.buy(0, 1));
        ALL.after(x -> x.teach(1, 0, 1)).refuses(5, "has it already, as taught", x -> x.buy(0, 3));
        ALL.refuses(5, "has it already, ahead of too few coins", x -> x.buy(3, 2));
        ALL.after(x -> x.go(1, 1)).refuses(5, "has it already, ahead of no coins", x -> x.buy(1, 2));
        ALL.refuses(5, "isn't there, ahead of no coins", x -> x.buy(1, 2));
        ALL.refuses(6, "no coins", x -> x.buy(1, 0));
        ALL.after(x -> x.go(3, 0)).after(x -> x.buy(3, 0)).refuses(6, "a coin too few", x -> x.buy(3, 1));
        ALL.after(x -> x.buy(0, 1)).after(x -> x.go(0, 1)).refuses(6, "some too few", x -> x.buy(0, 2));
        for (int none : Scene.outside(4)) {
            ALL.refuses(1, "buy of " + none, x -> x.buy(none, 0));
            ALL.refuses(1, "buy at " + none, x -> x.buy(0, none));
        }
        BARE.refuses(1, "without people", x -> x.buy(0, 0));
        NOWHERE.refuses(1, "without a ROAD", x -> x.buy(0, 0));
    }

    private static void teach() {
        Sentence.is("TEACH: true;");
        TuneGates x = ALL.allows("teach", y -> y.teach(1, 0, 1));
        person(x, 0, 0, 7, 2, 0, 0);
        person(x, 1, 0, 0, 2, 0, 0);
        Check.due("one ACT", x.size(10), 1);
        x = ALL.after(y -> y.buy(0, 0)).allows("what he bought", y -> y.teach(0, 1, 0));
        person(x, 1, 0, 0, 3, 0, 0);
        x = ALL.after(y -> y.buy(0, 1)).after(y -> y.go(0, 1)).allows("one who has it forged", y -> y.teach(2, 0, 0));
        person(x, 0, 1, 4, 1, 1, 99);
        x = ALL.after(y -> y.teach(1, 0, 1)).after(y -> y.go(0, 1)).allows("what he was taught", y -> y.teach(0, 2, 1));
        person(x, 2, 1, 999, 3, 0, 0);
    }

    private static void teachRefused() {
        Sentence.is("false: 1 (unlike); 5 (they aren't at one place, the one doesn't know it, the other one does).");
        ALL.denies(5, "they aren't at one place", x -> x.teach(2, 0, 0));
        ALL.denies(5, "the one doesn't know it", x -> x.teach(1, 0, 0));
        ALL.after(x -> x.go(1, 1)).denies(5, "the other one does", x -> x.teach(1, 3, 1));
        ALL.after(x -> x.teach(1, 0, 1)).denies(5, "the other one was taught", x -> x.teach(1, 0, 1));
        ALL.after(x -> x.teach(1, 0, 1)).denies(5, "nor back", x -> x.teach(0, 1, 1));
        for (int who = 0; who < 4; who++) {
            int same = who;
            ALL.denies(1, "alike " + who, x -> x.teach(same, same, 0));
            ALL.denies(1, "alike, of what he knows " + who, x -> x.teach(same, same, 1));
        }
        for (int none : Scene.outside(4)) {
            ALL.denies(1, "teach of " + none, x -> x.teach(none, 0, 1));
            ALL.denies(1, "teach to " + none, x -> x.teach(1, none, 1));
        }
        for (int none : Scene.outside(2)) {
            ALL.denies(1, "tune " + none, x -> x.teach(1, 0, none));
        }
        BARE.denies(1, "without people", x -> x.teach(0, 1, 0));
        NOWHERE.denies(1, "without a ROAD", x -> x.teach(0, 1, 0));
    }

    private static void rain() {
        Sentence.is("RAIN, or not (not is): true; false: 1 (no ROAD); 5 (it is so).");
        TuneGates x = ALL.allows("rain", y -> y.rain(true));
        Check.due("it rains", x.size(9), 1);
        Check.due("one ACT", x.size(10), 1);
        x = ALL.inRain().allows("not", y -> y.rain(false));
        Check.due("it doesn't", x.size(9), 0);
        Check.due("two ACTS", x.size(10), 2);
        x = ALL.after(y -> y.go(3, 0)).allows("rain alone changes", y -> y.rain(true));
        person(x, 0, 0, 7, 0, 0, 0);
        person(x, 3, 0, 6, 2, 0, 99);
        x = ALL.inRain().does(99, "who goes leaves the rain", y -> y.go(3, 0));
        Check.due("it rains still", x.size(9), 1);
        ALL.denies(5, "it doesn't, at first", y -> y.rain(false));
        ALL.inRain().denies(5, "it does", y -> y.rain(true));
        ALL.inRain().after(TuneGates::undo).denies(5, "it doesn't, undone", y -> y.rain(false));
        BARE.allows("without people", y -> y.rain(true));
        NOWHERE.denies(1, "without a ROAD", y -> y.rain(true));
        NOWHERE.denies(1, "not, without a ROAD", y -> y.rain(false));
    }

    private static void undo() {
        Sentence.is("UNDO: true; false: 6.");
        ALL.denies(6, "nothing to undo", TuneGates::undo);
        TuneGates x = ALL.after(y -> y.go(0, 1)).allows("undo", TuneGates::undo);
        Check.due("none is left", x.size(10), 0);
        person(x, 0, 0, 7, 0, 0, 0);
        ALL.after(y -> y.go(0, 1)).after(TuneGates::undo).denies(6, "it is undone", TuneGates::undo);
        ALL.after(y -> y.go(0, 2)).denies(6, "a refused ACT is none", TuneGates::undo);
        ALL.after(TuneGates::mark).denies(6, "a MARK is none", TuneGates::undo);
        BARE.denies(6, "without people", TuneGates::undo);
        NOWHERE.denies(6, "without a ROAD", TuneGates::undo);
        TuneGates z = ALL.after(y -> y.go(0, 1)).after(TuneGates::mark).allows("behind a MARK", TuneGates::undo);
        Check.due("the MARK stays", z.size(11), 1);
        Check.due("as it was", z.back(0), true);
        person(z, 0, 1, 7, 0, 0, 99);
    }

    private static void mark() {
        Sentence.is("A MARK: its number. NONE: 1 (no ROAD); 3.");
        TuneGates x = ALL.does(0, "the first", TuneGates::mark);
        Check.due("marks", x.size(11), 1);
        Check.due("no ACT", x.size(10), 0);
        ALL.after(TuneGates::mark).does(1, "the second", TuneGates::mark);
        Scene two = ALL.after(TuneGates::mark).after(TuneGates::mark);
        two.does(2, "the third", TuneGates::mark);
        two.after(TuneGates::mark).refuses(3, "a fourth one", TuneGates::mark);
        two.after(y -> y.back(0)).does(2, "behind going back the third still", TuneGates::mark);
        two.after(TuneGates::mark).after(y -> y.back(0)).refuses(3, "behind going back no fourth", TuneGates::mark);
        BARE.does(0, "without people", TuneGates::mark);
        NOWHERE.refuses(1, "without a ROAD", TuneGates::mark);
    }

    private static void back() {
        Sentence.is("All is as by a MARK (all MARKS stay): true; false: 1.");
        Scene later = ALL.after(TuneGates::mark).after(x -> x.buy(0, 1)).after(x -> x.teach(1, 0, 1)).inRain()
            .after(x -> x.go(0, 1)).after(TuneGates::mark).after(x -> x.go(0, 0)).after(x -> x.rain(false));
        TuneGates x = later.allows("back to the first", y -> y.back(0));
        person(x, 0, 0, 7, 0, 0, 0);
        Check.due("no rain", x.size(9), 0);
        Check.due("all MARKS stay", x.size(11), 2);
        Check.due("to the second from there", x.back(1), true);
        person(x, 0, 1, 4, 2, 1, 99);
        Check.due("rain", x.size(9), 1);
        Check.due("all MARKS stay", x.size(11), 2);
        for (int none : Scene.outside(2)) {
            later.denies(1, "back to " + none, y -> y.back(none));
        }
        ALL.denies(1, "without MARKS", y -> y.back(0));
        NOWHERE.denies(1, "without a ROAD", y -> y.back(0));
    }
}
