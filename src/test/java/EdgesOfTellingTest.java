import java.util.LinkedHashMap;
import java.util.Map;
import java.util.NoSuchElementException;
import java.util.function.ToIntFunction;

/** Terms IV, the constants, and promises 50 to 52, sentence by sentence; and an object's 512 calls. */
public final class EdgesOfTellingTest {
    private static final Scene NOWHERE = Scene.withoutRoad();
    private static final Scene BARE = Scene.of("turnpike rain 0;place a");
    private static final String TEXT = "turnpike rain 100;tune k ab;tune l cd;place a;place b;road a b minutes 5"
        + ";inn a forges k price 1;inn a sells l price 2;inn a forges l price 1;person v at a coins 9;person w at a coins 9"
        + ";person x at a coins 9;person y at a coins 9;knows v l";
    private static final Scene FOUR = Scene.of(TEXT);

    public static void main(String[] args) {
        calls();
        none();
        latestThatMayBeRefused();
        numbers();
        led();
        size();
        sizeForOthers();
        trouble();
        Sentence.end("EdgesOfTellingTest");
    }

    private static void calls() {
        Sentence.is("An object is used for at most 512 calls after it has been made; what later calls answer is free.");
        TuneGates x = new TuneGates();
        Check.feed(x, TEXT);
        int made = (TEXT.length() + 19) / 20;
        Check.due("turnpike", x.turnpike(TEXT.length()), 2);
        for (int call = made + 2; call <= 512; call++) {
            Check.due("call " + call, call % 2 == 0 ? x.reach(call % 4) : x.song(3), call % 2 == 0 ? 3 : 4);
        }
        TuneGates y = new TuneGates();
        for (int call = 1; call <= 510; call++) {
            Check.due("feed, call " + call, y.feed(0, 0, 0, 0, 0), call <= 50 ? 20 * call : -1);
        }
        Check.due("call 511", y.turnpike(1000), -1);
        Check.due("call 512", y.where(), 0);
    }

    private static void none() {
        Sentence.is("The constants: `NONE = -1`: There is none; refused.");
        Check.due("NONE", TuneGates.NONE, -1);
        NOWHERE.refuses(1, "by NONE", x -> x.rows());
    }

    /** Every call of which a number of TROUBLE is told, by arguments that there are. */
    private static Map<String, ToIntFunction<TuneGates>> mayBeRefused() {
        Map<String, ToIntFunction<TuneGates>> calls = new LinkedHashMap<>();
        calls.put("length", x -> x.length(0));
        calls.put("sung", x -> x.sung(0, 0, false));
        calls.put("road", x -> x.road(0, 1));
        calls.put("gate", x -> x.gate(0, 1, 0));
        calls.put("inn", x -> x.inn(0, 0));
        calls.put("person", x -> x.person(0, 0));
        calls.put("lifts", x -> x.lifts(0, 1, 0, false));
        calls.put("passes", x -> x.passes(0, 0, 1));
        calls.put("opens", x -> x.opens(0));
        calls.put("likest", x -> x.likest());
        calls.put("way", x -> x.way(0, 1));
        calls.put("wayAt", x -> x.wayAt(0, 1, 1));
        calls.put("reach", x -> x.reach(0));
        calls.put("reachIf", x -> x.reachIf(0, true));
        calls.put("bestTune", x -> x.bestTune(0));
        calls.put("trip", x -> x.trip(0, 1));
        calls.put("tripInns", x -> x.tripInns(0, 1));
        calls.put("farReach", x -> x.farReach(0));
        calls.put("soonest", x -> x.soonest(0));
        calls.put("song", x -> x.song(1));
        calls.put("songAt", x -> x.songAt(1, 0));
        calls.put("overlap", x -> x.overlap(0, 1));
        calls.put("together", x -> x.together(0, 1));
        calls.put("pairs", x -> x.pairs());
        calls.put("partner", x -> x.partner(0));
        calls.put("rows", x -> x.rows());
        calls.put("could", x -> x.could(0));
        calls.put("surely", x -> x.surely(0));
        calls.put("ask", x -> x.ask());
        calls.put("askLeaves", x -> x.askLeaves());
        calls.put("suspect", x -> x.suspect());
        calls.put("sells", x -> x.sells(1, 1, 1, true));
        calls.put("rests", x -> x.rests(1));
        calls.put("rest", x -> x.rest(1));
        calls.put("roams", x -> x.roams(0, 0, 1));
        calls.put("roamed", x -> x.roamed(0, 0, 1));
        calls.put("roamsTo", x -> x.roamsTo(0, 1, 0, 1));
        calls.put("go", x -> x.go(0, 1));
        calls.put("buy", x -> x.buy(0, 0));
        calls.put("teach", x -> x.teach(0, 1, 1) ? 1 : 0);
        calls.put("rain", x -> x.rain(true) ? 1 : 0);
        calls.put("mark", x -> x.mark());
        calls.put("undo", x -> x.rain(true) && x.turnpike(0) < 0 && x.undo() ? 1 : 0);
        calls.put("back", x -> x.mark() == 0 && x.turnpike(0) < 0 && x.back(0) ? 1 : 0);
        return calls;
    }

    /** Those of which no number is told. */
    private static Map<String, ToIntFunction<TuneGates>> neverRefused() {
        Map<String, ToIntFunction<TuneGates>> calls = new LinkedHashMap<>();
        calls.put("feed", x -> x.feed(0, 0, 0, 0, 0));
        calls.put("fault", x -> x.fault());
        calls.put("where", x -> x.where());
        calls.put("size", x -> x.size(1));
        calls.put("size of others", x -> x.size(13));
        calls.put("led", x -> Scene.led(x, 0));
        calls.put("trouble", x -> x.trouble());
        return calls;
    }

    private static void latestThatMayBeRefused() {
        Sentence.is("TROUBLE of the latest call that may be refused (those of which a number is told here):");
        mayBeRefused().forEach((name, call) -> {
            TuneGates x = FOUR.made();
            Check.due("trouble ahead of " + name, x.trouble(), 4);
            call.applyAsInt(x);
            Check.due("trouble of " + name, x.trouble(), 0);
            Check.due("where of " + name, x.where(), -1);
            TuneGates none = NOWHERE.made();
            call.applyAsInt(none);
            Check.due("trouble of " + name + " without a ROAD", none.trouble(), 1);
            Check.due("where of " + name + " without a ROAD", none.where(), -1);
        });
        neverRefused().forEach((name, call) -> {
            TuneGates x = FOUR.made();
            call.applyAsInt(x);
            Check.due("trouble behind " + name, x.trouble(), 4);
            Check.due("where behind " + name, x.where(), 0);
            x.undo();
            call.applyAsInt(x);
            Check.due("trouble of undo behind " + name, x.trouble(), 6);
            x.reach(0);
            call.applyAsInt(x);
            Check.due("no trouble behind " + name, x.trouble(), 0);
        });
        TuneGates full = FOUR.made();
        for (int feeds = 0; feeds < 50; feeds++) {
            full.feed(0, 0, 0, 0, 0);
        }
        full.reach(0);
        Check.due("feed without room", full.feed(0, 0, 0, 0, 0), -1);
        Check.due("has no number", full.trouble(), 0);
    }

    private static void numbers() {
        Sentence.is("0 it wasn't; 1 there is none such; 2 a number; 3 no room; 4 a FAULT; 5 not so; 6 there is none.");
        Check.due("at first", new TuneGates().trouble(), 0);
        TuneGates x = Check.told(TEXT);
        Check.due("a ROAD", x.trouble(), 0);
        x.reach(4);
        Check.due("nobody such", x.trouble(), 1);
        x.rests(100);
        Check.due("a number", x.trouble(), 2);
        for (int marks = 0; marks < 4; marks++) {
            x.mark();
        }
        Check.due("no room", x.trouble(), 3);
        x.turnpike(0);
        Check.due("a FAULT", x.trouble(), 4);
        x.go(0, 0);
        Check.due("not so", x.trouble(), 5);
        x.undo();
        Check.due("there is none", x.trouble(), 6);
        x.turnpike(-1);
        Check.due("a number of bytes", x.trouble(), 2);
        x.go(0, 1);
        Check.due("it wasn't", x.trouble(), 0);
        Scene apart = Scene.of("turnpike rain 0;place a;place b;person x at a coins 0");
        apart.tells(-2, "there is no WAY, but it wasn't refused", y -> y.way(0, 1));
    }

    private static void due(TuneGates x, int... people) {
        for (int i = 0; i < people.length; i++) {
            Check.due("led " + i, Scene.led(x, i), people[i]);
        }
        for (int none : Scene.outside(people.length)) {
            throwsFor(x, none);
        }
    }

    private static void throwsFor(TuneGates x, int i) {
        boolean thrown = false;
        try {
            x.led(i);
        } catch (NoSuchElementException none) {
            thrown = none.getClass() == NoSuchElementException.class;
        }
        Check.due("led " + i + " throws", thrown, true);
    }

    private static void led() {
        Sentence.is("The i-th person, by numbers, who has a forged tune. NoSuchElementException if there is none such.");
        due(FOUR.made());
        due(FOUR.after(x -> x.buy(1, 1)).made());
        due(FOUR.after(x -> x.buy(3, 0)).made(), 3);
        due(FOUR.after(x -> x.buy(3, 0)).after(x -> x.buy(1, 2)).after(x -> x.buy(1, 0)).made(), 1, 3);
        due(FOUR.after(x -> x.buy(3, 2)).after(x -> x.buy(2, 0)).after(x -> x.buy(1, 0)).after(x -> x.buy(0, 0)).made(),
            0, 1, 2, 3);
        due(FOUR.after(x -> x.buy(3, 0)).after(TuneGates::undo).made());
        due(FOUR.after(TuneGates::mark).after(x -> x.buy(3, 0)).after(x -> x.back(0)).made());
        due(BARE.made());
        due(NOWHERE.made());
        due(FOUR.after(x -> x.buy(3, 0)).after(x -> Check.read(x, TEXT)).made());
    }

    private static void sizes(TuneGates x, int... due) {
        for (int what = 0; what < due.length; what++) {
            Check.due("size " + what, x.size(what), due[what]);
        }
    }

    private static void size() {
        Sentence.is("0 rain, 1 tunes, 2 places, 3 roads, 4 gates, 5 inns, 6 people, 7 known as told, 8 heard,"
            + " 9 1 if it RAINS, 10 ACTS that can be undone, 11 MARKS, 12 bytes of THE TAPE.");
        sizes(FOUR.made(), 100, 2, 2, 1, 0, 3, 4, 1, 0, 0, 0, 0, 0);
        sizes(Check.told(EdgesOfTextTest.full()), 50, 6, 7, 10, 10, 6, 4, 8, 5, 0, 0, 0, 0);
        TuneGates x = FOUR.after(y -> y.buy(1, 1)).after(y -> y.teach(1, 2, 1)).inRain().after(TuneGates::mark).made();
        x.feed(0, 0, 0, 0, 0);
        sizes(x, 100, 2, 2, 1, 0, 3, 4, 1, 0, 1, 3, 1, 20);
        TuneGates full = new TuneGates();
        for (int feeds = 0; feeds < 51; feeds++) {
            full.feed(0, 0, 0, 0, 0);
        }
        Check.due("all bytes", full.size(12), 1000);
    }

    private static void sizeForOthers() {
        Sentence.is("NONE for others; 0 for what there isn't.");
        for (int other : new int[] {-1, 13, 14, 32, 256, Integer.MAX_VALUE, Integer.MIN_VALUE}) {
            Check.due("size " + other, FOUR.made().size(other), -1);
            Check.due("size " + other + " without a ROAD", new TuneGates().size(other), -1);
        }
        sizes(new TuneGates(), 0, 0, 0, 0, 0, 0, 0, 0, 0, 0, 0, 0, 0);
        sizes(BARE.made(), 0, 0, 1, 0, 0, 0, 0, 0, 0, 0, 0, 0, 0);
        TuneGates faulty = new TuneGates();
        Check.read(faulty, TEXT + ";heard k;#");
        sizes(faulty, 0, 0, 0, 0, 0, 0, 0, 0, 0, 0, 0, 0, 0);
    }

    private static void trouble() {
        Sentence.is("`int trouble()`: TROUBLE.");
        TuneGates x = new TuneGates();
        x.rows();
        Check.due("trouble", x.trouble(), 1);
        Check.due("trouble again", x.trouble(), 1);
        x.undo();
        Check.due("of the latest", x.trouble(), 6);
    }
}
