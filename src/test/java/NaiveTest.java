import java.util.ArrayDeque;
import java.util.ArrayList;
import java.util.Arrays;
import java.util.List;
import java.util.Map;
import java.util.Random;

/** All promises: random ROADS, texts with slips in them, and random ACTS, against the naive model. */
public final class NaiveTest {
    private static final Random RANDOM = new Random(20261118);
    private static int good = 0;

    public static void main(String[] args) {
        for (int i = 0; i < 400; i++) {
            String text = text();
            Naive model = new Naive(text);
            TuneGates x = new TuneGates();
            Check.read(x, text);
            compareFault(x, model, text);
            if (model.fault == 0) {
                good++;
                compareAll(x, model);
                acts(x, model);
            }
        }
        for (int i = 0; i < 20000; i++) {
            String text = slipped(text());
            TuneGates x = new TuneGates();
            Check.read(x, text);
            compareFault(x, new Naive(text), text);
        }
        Check.due("most texts are without a fault", good > 300, true);
        Check.end("NaiveTest");
    }

    static int any(int below) {
        return RANDOM.nextInt(below);
    }

    // ---- texts

    static String text() {
        List<String> lines = new ArrayList<>();
        int tunes = any(7);
        int places = 1 + any(7);
        int letters = 2 + any(6);
        int longest = any(3) == 0 ? 2 : 2 + any(7);
        for (int t = 0; t < tunes; t++) {
            StringBuilder notes = new StringBuilder();
            int many = Math.max(2, longest - any(3));
            for (int i = 0; i < many; i++) {
                notes.append((char) ('a' + any(letters)));
            }
            lines.add("tune t" + name(t) + " " + notes);
        }
        for (int p = 0; p < places; p++) {
            lines.add("place p" + name(p));
        }
        List<String> pairs = new ArrayList<>();
        for (int p = 0; p < places; p++) {
            for (int q = 0; q < places; q++) {
                if (p < q) {
                    pairs.add(any(2) == 0 ? "p" + name(p) + " p" + name(q) : "p" + name(q) + " p" + name(p));
                }
            }
        }
        java.util.Collections.shuffle(pairs, RANDOM);
        int roads = Math.min(pairs.size(), any(11));
        int minutes = any(2) == 0 ? 4 : 99;
        String[] kinds = {"strict", "kind", "deaf", "forgot"};
        for (int r = 0; r < roads; r++) {
            lines.add("road " + pairs.get(r) + " minutes " + (1 + any(minutes)));
            if (tunes > 0 && any(4) > 0) {
                lines.add("gate " + pairs.get(r) + " " + kinds[any(any(2) == 0 ? 2 : 4)] + " t" + name(any(tunes)));
            }
        }
        int people = any(5);
        for (int x = 0; x < people; x++) {
            lines.add("person x" + name(x) + " at p" + name(any(places)) + " coins " + any(any(2) == 0 ? 12 : 1000));
        }
        if (tunes > 0) {
            int prices = 1 + any(9);
            for (int k = any(7); k > 0; k--) {
                lines.add("inn p" + name(any(places)) + (any(2) == 0 ? " sells t" : " forges t") + name(any(tunes))
                    + " price " + any(prices));
            }
            for (int k = any(6); k > 0; k--) {
                lines.add("heard t" + name(any(any(3) == 0 ? 1 : tunes)));
            }
            if (people > 0) {
                for (int k = any(9); k > 0; k--) {
                    String line = "knows x" + name(any(people)) + " t" + name(any(tunes));
                    if (!lines.contains(line)) {
                        lines.add(line);
                    }
                }
            }
        }
        return "turnpike rain " + any(101) + ";" + String.join(any(2) == 0 ? ";" : " ; ", lines);
    }

    private static String name(int number) {
        return String.valueOf((char) ('a' + number));
    }

    /** A token is left out, doubled, changed for another, or a byte is. */
    static String slipped(String text) {
        List<String> tokens = new ArrayList<>(Arrays.asList(text.replace(";", " ; ").trim().split(" +")));
        String[] others = {"turnpike", "tune", "place", "road", "gate", "inn", "person", "knows", "heard", "rain", "strict",
            "sells", "price", "at", "pa", "pb", "ta", "tb", "xa", "xb", "zz", ";", "0", "100", "101", "999", "1000",
            "abcdefghi", "ab", "a", "#", "\u00ff", "A"};
        for (int slips = 1 + any(2); slips > 0; slips--) {
            int at = any(tokens.size());
            switch (any(6)) {
                case 0 -> tokens.remove(at);
                case 1 -> tokens.add(at, tokens.get(at));
                case 2 -> tokens.set(at, others[any(others.length)]);
                case 3 -> tokens.set(at, tokens.get(any(tokens.size())));
                case 4 -> tokens = new ArrayList<>(tokens.subList(0, at + 1));
                default -> doubleLine(tokens, at);
            }
            if (tokens.isEmpty()) {
                tokens.add("");
            }
        }
        StringBuilder joined = new StringBuilder(any(5) == 0 ? " " : "");
        for (String token : tokens) {
            joined.append(token).append(any(20) == 0 ? "  " : any(30) == 0 ? "" : " ");
        }
        return joined.substring(0, Math.min(joined.length(), 1000));
    }

    private static void doubleLine(List<String> tokens, int at) {
        int from = tokens.subList(0, at).lastIndexOf(";") + 1;
        int to = from;
        while (to < tokens.size() && !tokens.get(to).equals(";")) {
            to++;
        }
        List<String> line = new ArrayList<>(tokens.subList(from, to));
        tokens.add(";");
        tokens.addAll(line);
    }

    private static void compareFault(TuneGates x, Naive model, String text) {
        String what = " of " + text;
        Check.due("fault" + what, x.fault(), model.fault);
        Check.due("where" + what, x.where(), model.fault == 0 ? -1 : model.where);
        Check.due("trouble" + what, x.trouble(), model.fault == 0 ? 0 : 4);
        Check.due("places" + what, x.size(2), model.fault == 0 ? model.places : 0);
    }

    // ---- answers

    static void compareAll(TuneGates x, Naive model) {
        compareSizes(x, model);
        compareRoads(x, model);
        comparePeople(x, model);
        compareTunes(x, model);
        compareStranger(x, model);
    }

    private static void compareSizes(TuneGates x, Naive model) {
        int[] sizes = {model.rain, model.tunes.size(), model.places, model.roads.size(), model.gates.size(),
            model.inns.size(), model.people.size(), model.known, model.heard.size(), model.rains ? 1 : 0};
        for (int what = 0; what < sizes.length; what++) {
            Check.due("size " + what, x.size(what), sizes[what]);
        }
        for (int k = 0; k < model.inns.size(); k++) {
            for (int what = 0; what < 4; what++) {
                Check.due("inn", x.inn(k, what), model.inns.get(k)[what]);
            }
        }
    }

    private static void compareRoads(TuneGates x, Naive model) {
        for (int p = 0; p < model.places; p++) {
            for (int q = 0; q < model.places; q++) {
                int[] road = model.roadOf(p, q);
                int[] gate = model.gateOf(p, q);
                Check.due("road", x.road(p, q), p == q ? -1 : road == null ? -2 : road[2]);
                Check.due("kind", x.gate(p, q, 0), p == q ? -1 : gate == null ? -2 : gate[2]);
                Check.due("tune", x.gate(p, q, 1), p == q ? -1 : gate == null ? -2 : gate[3]);
                for (int t = 0; t < 2 * model.tunes.size(); t++) {
                    boolean lifts = gate == null || model.lifts(gate, model.voice(t / 2, t % 2 == 1, model.rains));
                    Check.due("lifts", x.lifts(p, q, t / 2, t % 2 == 1), road == null ? -1 : lifts ? 1 : 0);
                }
                for (int who = 0; who < model.people.size(); who++) {
                    int[] one = model.people.get(who);
                    boolean passes = model.passes(one[2], one[3], p, q, model.rains);
                    Check.due("passes", x.passes(who, p, q), road == null ? -1 : passes ? 1 : 0);
                }
            }
        }
    }

    private static void comparePeople(TuneGates x, Naive model) {
        int suspect = -2;
        for (int who = model.people.size() - 1; who >= 0; who--) {
            int[] one = model.people.get(who);
            for (int what = 0; what < 5; what++) {
                Check.due("person", x.person(who, what), one[what]);
            }
            suspect = model.heard.stream().allMatch(t -> (one[2] >> t & 1) == 1) ? who : suspect;
            Check.due("reach", x.reach(who), model.reach(one[0], one[2], one[3], model.rains));
            Check.due("reachIf", x.reachIf(who, true), model.reach(one[0], one[2], one[3], true));
            Check.due("reachIf not", x.reachIf(who, false), model.reach(one[0], one[2], one[3], false));
            Check.due("bestTune", x.bestTune(who), model.bestTune(who));
            compareTrips(x, model, who);
            compareDays(x, model, who);
        }
        Check.due("suspect", x.suspect(), suspect);
        compareSoonest(x, model);
    }

    private static void compareTrips(TuneGates x, Naive model, int who) {
        Map<Integer, Integer> sets = model.trips(who);
        int far = 0;
        for (int p = 0; p < model.places; p++) {
            int set = model.tripInns(sets, p);
            far |= set < 0 ? 0 : 1 << p;
            Check.due("tripInns", x.tripInns(who, p), set);
            Check.due("trip", x.trip(who, p), set < 0 ? -2 : model.price(set));
        }
        Check.due("farReach", x.farReach(who), far);
    }

    private static void compareDays(TuneGates x, Naive model, int who) {
        int goal = any(model.places);
        int seed = any(65537);
        int n = any(91);
        if (model.roads.isEmpty()) {
            Check.refused(x, "roams", x.roams(who, seed, n), 6);
            return;
        }
        int[] days = model.roam(who, goal, seed, n);
        Check.due("roams", x.roams(who, seed, n), days[0]);
        Check.due("roamed", x.roamed(who, seed, n), days[1]);
        Check.due("roamsTo", x.roamsTo(who, goal, seed, n), days[2]);
    }

    private static void compareSoonest(TuneGates x, Naive model) {
        for (int p = 0; p < model.places; p++) {
            int best = -2;
            int least = Integer.MAX_VALUE;
            for (int who = 0; who < model.people.size(); who++) {
                int[] one = model.people.get(who);
                List<Integer> way = model.way(one[0], p, one[2], one[3], model.rains);
                Check.due("way", x.way(who, p), way == null ? -2 : way.get(0));
                for (int i = 0; i <= 7; i++) {
                    boolean there = way != null && i + 1 < way.size();
                    Check.due("wayAt", x.wayAt(who, p, i), there ? way.get(i + 1) : -1);
                }
                if (way != null && way.get(0) < least) {
                    least = way.get(0);
                    best = who;
                }
            }
            Check.due("soonest", x.soonest(p), best);
        }
    }

    private static void compareTunes(TuneGates x, Naive model) {
        int many = model.tunes.size();
        int[] partners = model.partners();
        for (int t = 0; t < many; t++) {
            Check.due("length", x.length(t), model.tunes.get(t).length());
            for (int i = 0; i < model.tunes.get(t).length(); i++) {
                Check.due("sung", x.sung(t, i, false), model.voice(t, false, model.rains).charAt(i) - 'a');
                Check.due("sung forged", x.sung(t, i, true), model.voice(t, true, model.rains).charAt(i) - 'a');
            }
            Check.due("opens", x.opens(t), model.opens(t));
            Check.due("partner", x.partner(t), partners[t]);
            for (int u = 0; u < many; u++) {
                Check.due("overlap", x.overlap(t, u), t == u ? -1 : model.overlap(t, u));
                Check.due("together", x.together(t, u), t == u ? -1 : model.together(t, u) ? 1 : 0);
            }
        }
        Check.due("likest", x.likest(), model.likest());
        Check.due("pairs", x.pairs(), Arrays.stream(partners).filter(u -> u >= 0).count() / 2);
        for (int set = 1; set < 1 << many; set++) {
            if (set != (1 << many) - 1 && any(8) > 0) {
                continue;
            }
            String song = model.song(set);
            Check.due("song", x.song(set), song.length());
            for (int i = 0; i <= song.length(); i++) {
                Check.due("songAt of " + model.tunes, x.songAt(set, i), i == song.length() ? -1 : song.charAt(i) - 'a');
            }
        }
    }

    private static void compareStranger(TuneGates x, Naive model) {
        List<int[]> rows = model.rows();
        Check.due("rows", x.rows(), rows.size());
        int ask = 0;
        for (int k = 0; k <= model.heard.size(); k++) {
            int bits = 0;
            for (int[] row : rows) {
                bits |= 1 << row[k];
            }
            Check.due("could", x.could(k), bits);
            Check.due("surely", x.surely(k), Integer.bitCount(bits) == 1 ? Integer.numberOfTrailingZeros(bits) : -2);
            ask = Naive.mostLeft(rows, k) < Naive.mostLeft(rows, ask) ? k : ask;
        }
        Check.due("ask", x.ask(), rows.isEmpty() ? -2 : ask);
        Check.due("askLeaves", x.askLeaves(), rows.isEmpty() ? -2 : Naive.mostLeft(rows, ask));
    }

    // ---- acts

    private static List<int[]> copy(Naive model) {
        List<int[]> rows = new ArrayList<>();
        model.people.forEach(one -> rows.add(one.clone()));
        rows.add(new int[] {model.rains ? 1 : 0});
        return rows;
    }

    private static void put(Naive model, List<int[]> rows) {
        for (int who = 0; who < model.people.size(); who++) {
            model.people.set(who, rows.get(who).clone());
        }
        model.rains = rows.get(model.people.size())[0] == 1;
    }

    static void acts(TuneGates x, Naive model) {
        ArrayDeque<List<int[]>> kept = new ArrayDeque<>();
        List<List<int[]>> marks = new ArrayList<>();
        for (int call = 0; call < 150; call++) {
            List<int[]> before = copy(model);
            int act = any(60);
            if (act < 50) {
                boolean done = act < 25 ? go(x, model) : act < 35 ? buy(x, model) : act < 45 ? teach(x, model) : rain(x, model);
                if (done) {
                    kept.addLast(before);
                }
                if (kept.size() > 16) {
                    kept.removeFirst();
                }
            } else if (act < 57) {
                Check.due("undo", x.undo(), !kept.isEmpty());
                Check.due("trouble of undo", x.trouble(), kept.isEmpty() ? 6 : 0);
                if (!kept.isEmpty()) {
                    put(model, kept.removeLast());
                }
            } else if (act < 58) {
                Check.due("mark", x.mark(), marks.size() < 3 ? marks.size() : -1);
                if (marks.size() < 3) {
                    marks.add(before);
                }
            } else {
                int mark = any(4);
                Check.due("back", x.back(mark), mark < marks.size());
                if (mark < marks.size()) {
                    put(model, marks.get(mark));
                    kept.clear();
                }
            }
            Check.due("acts", x.size(10), kept.size());
            Check.due("marks", x.size(11), marks.size());
            compareState(x, model);
        }
        compareAll(x, model);
    }

    private static void compareState(TuneGates x, Naive model) {
        Check.due("rains", x.size(9), model.rains ? 1 : 0);
        int led = 0;
        for (int who = 0; who < model.people.size(); who++) {
            int[] one = model.people.get(who);
            for (int what = 0; what < 5; what++) {
                Check.due("person", x.person(who, what), one[what]);
            }
            if (one[3] != 0) {
                Check.due("led", x.led(led++), who);
            }
        }
    }

    private static boolean go(TuneGates x, Naive model) {
        int who = any(5);
        int p = any(model.places + 1);
        int trouble = who >= model.people.size() || p == model.places ? 1 : 0;
        int minutes = -1;
        if (trouble == 0) {
            int[] one = model.people.get(who);
            int[] road = model.roadOf(one[0], p);
            trouble = road == null || !model.passes(one[2], one[3], one[0], p, model.rains) ? 5 : 0;
            if (trouble == 0) {
                one[0] = p;
                one[4] += road[2];
                minutes = one[4];
            }
        }
        Check.due("go", x.go(who, p), minutes);
        Check.due("trouble of go", x.trouble(), trouble);
        return trouble == 0;
    }

    private static boolean buy(TuneGates x, Naive model) {
        int who = any(4);
        int k = any(7);
        int trouble = who >= model.people.size() || k >= model.inns.size() ? 1 : 0;
        int coins = -1;
        if (trouble == 0) {
            int[] one = model.people.get(who);
            int[] inn = model.inns.get(k);
            int part = inn[2] == 1 ? 3 : 2;
            trouble = one[0] != inn[0] || (one[part] >> inn[1] & 1) == 1 ? 5 : one[1] < inn[3] ? 6 : 0;
            if (trouble == 0) {
                one[1] -= inn[3];
                one[part] |= 1 << inn[1];
                coins = one[1];
            }
        }
        Check.due("buy", x.buy(who, k), coins);
        Check.due("trouble of buy", x.trouble(), trouble);
        return trouble == 0;
    }

    private static boolean teach(TuneGates x, Naive model) {
        int who = any(4);
        int whom = any(4);
        int t = any(6);
        int many = model.people.size();
        int trouble = who >= many || whom >= many || who == whom || t >= model.tunes.size() ? 1 : 0;
        if (trouble == 0) {
            int[] one = model.people.get(who);
            int[] other = model.people.get(whom);
            trouble = one[0] != other[0] || (one[2] >> t & 1) == 0 || (other[2] >> t & 1) == 1 ? 5 : 0;
            other[2] |= trouble == 0 ? 1 << t : 0;
        }
        Check.due("teach", x.teach(who, whom, t), trouble == 0);
        Check.due("trouble of teach", x.trouble(), trouble);
        return trouble == 0;
    }

    private static boolean rain(TuneGates x, Naive model) {
        boolean is = any(2) == 0;
        boolean done = is != model.rains;
        Check.due("rain", x.rain(is), done);
        Check.due("trouble of rain", x.trouble(), done ? 0 : 5);
        model.rains = is;
        return done;
    }
}
