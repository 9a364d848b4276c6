import java.util.ArrayDeque;
import java.util.ArrayList;
import java.util.Arrays;
import java.util.HashMap;
import java.util.HashSet;
import java.util.List;
import java.util.Map;
import java.util.Set;
import java.util.regex.Matcher;
import java.util.regex.Pattern;

/** The document once more, by trying everything out, to be compared with TuneGates. */
final class Naive {
    static final List<String> SORTS =
        List.of("turnpike", "tune", "place", "road", "gate", "inn", "person", "knows", "heard");
    private static final int[] ROOM = {1, 6, 7, 10, 99, 6, 4, 8, 5};
    /** What stands in each sort of LINE: new names, names in use, WHOLES within bounds, notes, words. */
    private static final String[] LINES = {
        "=rain #0-100", "+tune notes", "+place", "place place2 =minutes #1-99", "place place2 =strict/kind/deaf/forgot tune",
        "place =sells/forges tune =price #0-99", "+person =at place =coins #0-999", "person tune2", "tune"
    };
    private static final List<String> KINDS = List.of("strict", "kind", "deaf", "forgot");

    int fault;
    int where;
    int rain;
    final List<String> tunes = new ArrayList<>();
    int places;
    final List<int[]> roads = new ArrayList<>();
    final List<int[]> gates = new ArrayList<>();
    final List<int[]> inns = new ArrayList<>();
    final List<int[]> people = new ArrayList<>();
    final List<Integer> heard = new ArrayList<>();
    int known;
    boolean rains;

    private final Map<String, String> names = new HashMap<>();

    Naive(String text) {
        if (!parse(text)) {
            return;
        }
        fault = 0;
    }

    // ---- the text

    private boolean fail(int number, int at) {
        fault = number;
        where = at;
        return false;
    }

    private boolean parse(String text) {
        Matcher next = Pattern.compile(" *(?:([a-z]+)|([0-9]+)|(;)|(.)|$)", Pattern.DOTALL).matcher(text);
        List<String> tokens = new ArrayList<>();
        List<Integer> starts = new ArrayList<>();
        while (next.find()) {
            String token = next.group().replace(" ", "");
            boolean bad = next.group(4) != null || next.group(1) != null && token.length() > 8
                || next.group(2) != null && token.length() > 3;
            tokens.add(bad ? "!" : token);
            starts.add(next.end() - token.length());
            if (token.isEmpty()) {
                break;
            }
        }
        int at = 0;
        int[] lines = new int[9];
        while (true) {
            int sort = SORTS.indexOf(tokens.get(at));
            int start = starts.get(at);
            if (sort < 0) {
                return fail(1, start);
            }
            if (sort == 0 && lines[0] == 1) {
                return fail(3, start);
            }
            if (lines[sort] == ROOM[sort]) {
                return fail(5, start);
            }
            if (sort > 0 && lines[0] == 0) {
                return fail(6, start);
            }
            lines[sort]++;
            at++;
            List<Object> row = new ArrayList<>();
            for (String slot : LINES[sort].split(" ")) {
                int number = slotFault(slot, sort, tokens.get(at), row);
                if (number != 0) {
                    return fail(number, starts.get(at));
                }
                at++;
            }
            take(sort, row);
            if (tokens.get(at).isEmpty()) {
                return places > 0 || fail(6, starts.get(at));
            }
            if (!tokens.get(at).equals(";")) {
                return fail(1, starts.get(at));
            }
            at++;
        }
    }

    private int slotFault(String slot, int sort, String token, List<Object> row) {
        boolean word = token.matches("[a-z]+");
        boolean name = word && !SORTS.contains(token);
        if (slot.startsWith("=")) {
            int which = Arrays.asList(slot.substring(1).split("/")).indexOf(token);
            row.add(which);
            return which < 0 ? 1 : 0;
        }
        if (slot.startsWith("#")) {
            if (!token.matches("[0-9]+")) {
                return 1;
            }
            String[] bounds = slot.substring(1).split("-");
            int number = Integer.parseInt(token);
            row.add(number);
            return number < Integer.parseInt(bounds[0]) || number > Integer.parseInt(bounds[1]) ? 4 : 0;
        }
        if (slot.equals("notes")) {
            row.add(token);
            return !word ? 1 : token.matches("[a-g]{2,8}") ? 0 : 7;
        }
        if (!name) {
            return 1;
        }
        if (slot.startsWith("+")) {
            String what = slot.substring(1);
            long many = names.values().stream().filter(v -> v.startsWith(what)).count();
            return names.putIfAbsent(token, what + ":" + many) == null ? 0 : 3;
        }
        return usedFault(slot, sort, token, row);
    }

    private int usedFault(String slot, int sort, String token, List<Object> row) {
        String told = names.get(token);
        String due = slot.replace("2", "");
        if (told == null || !told.startsWith(due + ":")) {
            return 2;
        }
        int number = Integer.parseInt(told.split(":")[1]);
        row.add(number);
        if (slot.equals("place2")) {
            int first = (Integer) row.get(0);
            int[] road = roadOf(first, number);
            if (first == number || sort == 3 && road != null || sort == 4 && road != null && gateOf(first, number) != null) {
                return 3;
            }
            return sort == 4 && road == null ? 8 : 0;
        }
        if (slot.equals("tune2")) {
            return (people.get((Integer) row.get(0))[2] >> number & 1) == 1 ? 3 : 0;
        }
        return 0;
    }

    private void take(int sort, List<Object> row) {
        int[] n = new int[row.size()];
        for (int i = 0; i < n.length; i++) {
            n[i] = row.get(i) instanceof Integer ? (Integer) row.get(i) : 0;
        }
        switch (sort) {
            case 0 -> rain = n[1];
            case 1 -> tunes.add((String) row.get(0));
            case 2 -> places++;
            case 3 -> roads.add(new int[] {n[0], n[1], n[3]});
            case 4 -> gates.add(new int[] {n[0], n[1], n[2], n[3]});
            case 5 -> inns.add(new int[] {n[0], n[2], n[1], n[4]});
            case 6 -> people.add(new int[] {n[1], n[3], 0, 0, 0});
            case 7 -> {
                people.get(n[0])[2] |= 1 << n[1];
                known++;
            }
            default -> heard.add(n[0]);
        }
    }

    // ---- now

    private static int[] find(List<int[]> list, int p, int q) {
        for (int[] each : list) {
            if (each[0] == p && each[1] == q || each[0] == q && each[1] == p) {
                return each;
            }
        }
        return null;
    }

    int[] roadOf(int p, int q) {
        return find(roads, p, q);
    }

    int[] gateOf(int p, int q) {
        return find(gates, p, q);
    }

    String voice(int t, boolean forged, boolean wet) {
        String tune = tunes.get(t);
        String ahead = tune.substring(0, tune.length() - 1);
        char last = tune.charAt(tune.length() - 1);
        if (forged) {
            last = last == 'g' ? 'f' : (char) (last + 1);
        }
        if (wet && last > 'a') {
            last--;
        }
        return ahead + last;
    }

    boolean lifts(int[] gate, String voice) {
        String own = tunes.get(gate[3]);
        int unlike = 0;
        for (int i = 0; i < Math.min(own.length(), voice.length()); i++) {
            unlike += own.charAt(i) == voice.charAt(i) ? 0 : 1;
        }
        return switch (gate[2]) {
            case 0 -> own.equals(voice);
            case 1 -> own.length() == voice.length() && unlike <= 1;
            case 2 -> own.length() == voice.length();
            default -> true;
        };
    }

    boolean passes(int knows, int forged, int p, int q, boolean wet) {
        int[] gate = gateOf(p, q);
        if (gate == null) {
            return true;
        }
        for (int t = 0; t < tunes.size(); t++) {
            if ((knows >> t & 1) == 1 && lifts(gate, voice(t, false, wet))
                || (forged >> t & 1) == 1 && lifts(gate, voice(t, true, wet))) {
                return true;
            }
        }
        return false;
    }

    int opens(int t) {
        return (int) gates.stream().filter(gate -> lifts(gate, voice(t, false, rains))).count();
    }

    int likest() {
        int best = -2;
        int most = -1;
        for (int t = 0; t < tunes.size(); t++) {
            for (int u = t + 1; u < tunes.size(); u++) {
                int alike = alike(t, u);
                if (tunes.get(t).length() == tunes.get(u).length() && alike > most) {
                    most = alike;
                    best = 10 * t + u;
                }
            }
        }
        return best;
    }

    private int alike(int t, int u) {
        int alike = 0;
        for (int i = 0; i < Math.min(tunes.get(t).length(), tunes.get(u).length()); i++) {
            alike += tunes.get(t).charAt(i) == tunes.get(u).charAt(i) ? 1 : 0;
        }
        return alike;
    }

    // ---- ways, by all rows of places without one twice

    /** Minutes, then the places; null without a WAY. */
    List<Integer> way(int from, int to, int knows, int forged, boolean wet) {
        List<List<Integer>> all = new ArrayList<>();
        walk(new ArrayList<>(List.of(0, from)), to, knows, forged, wet, all);
        all.sort((one, other) -> {
            for (int i = 0; i < Math.min(one.size(), other.size()); i++) {
                if (!one.get(i).equals(other.get(i))) {
                    return Integer.compare(one.get(i), other.get(i));
                }
            }
            return Integer.compare(one.size(), other.size());
        });
        return all.isEmpty() ? null : all.get(0);
    }

    private void walk(List<Integer> row, int to, int knows, int forged, boolean wet, List<List<Integer>> all) {
        int at = row.get(row.size() - 1);
        if (at == to) {
            all.add(new ArrayList<>(row));
            return;
        }
        for (int q = 0; q < places; q++) {
            int[] road = roadOf(at, q);
            if (road == null || row.subList(1, row.size()).contains(q) || !passes(knows, forged, at, q, wet)) {
                continue;
            }
            List<Integer> longer = new ArrayList<>(row);
            longer.set(0, row.get(0) + road[2]);
            longer.add(q);
            walk(longer, to, knows, forged, wet, all);
        }
    }

    int reach(int from, int knows, int forged, boolean wet) {
        int bits = 0;
        for (int p = 0; p < places; p++) {
            bits |= way(from, p, knows, forged, wet) != null ? 1 << p : 0;
        }
        return bits;
    }

    int bestTune(int x) {
        int[] who = people.get(x);
        int best = -2;
        int most = Integer.bitCount(reach(who[0], who[2], who[3], rains));
        for (int t = tunes.size() - 1; t >= 0; t--) {
            int more = Integer.bitCount(reach(who[0], who[2] | 1 << t, who[3], rains));
            if (more > most || more == most && best >= 0) {
                most = more;
                best = t;
            }
        }
        return best;
    }

    /** For each set of inns that he can buy at in some order the places he has a WAY to then. */
    Map<Integer, Integer> trips(int x) {
        Map<Integer, Integer> sets = new HashMap<>();
        int[] who = people.get(x);
        buyOn(0, who[0], who[1], who[2], who[3], sets);
        return sets;
    }

    private void buyOn(int set, int from, int coins, int knows, int forged, Map<Integer, Integer> sets) {
        if (coins < 0 || sets.containsKey(set)) {
            return;
        }
        int reached = reach(from, knows, forged, rains);
        sets.put(set, reached);
        for (int k = 0; k < inns.size(); k++) {
            int[] inn = inns.get(k);
            if ((set >> k & 1) == 0 && (reached >> inn[0] & 1) == 1) {
                int tune = 1 << inn[1];
                buyOn(set | 1 << k, from, coins - inn[3], inn[2] == 1 ? knows : knows | tune,
                    inn[2] == 1 ? forged | tune : forged, sets);
            }
        }
    }

    int price(int set) {
        int coins = 0;
        for (int k = 0; k < inns.size(); k++) {
            coins += (set >> k & 1) == 1 ? inns.get(k)[3] : 0;
        }
        return coins;
    }

    int tripInns(Map<Integer, Integer> sets, int p) {
        return sets.keySet().stream().filter(set -> (sets.get(set) >> p & 1) == 1).min((one, other) -> {
            int by = Integer.compare(price(one), price(other));
            by = by != 0 ? by : Integer.compare(Integer.bitCount(one), Integer.bitCount(other));
            return by != 0 ? by : Integer.compare(one, other);
        }).orElse(-2);
    }

    // ---- songs, note by note: the first row in which all stand, of rows by length, then by notes

    String song(int tunesAsBits) {
        ArrayDeque<String> rows = new ArrayDeque<>(List.of(""));
        Set<String> seen = new HashSet<>();
        while (true) {
            String row = rows.remove();
            int standing = 0;
            for (int t = 0; t < tunes.size(); t++) {
                standing |= (tunesAsBits >> t & 1) == 1 && row.contains(tunes.get(t)) ? 1 << t : 0;
            }
            if (standing == tunesAsBits) {
                return row;
            }
            if (!seen.add(standing + beginningAtEnd(row, tunesAsBits))) {
                continue;
            }
            for (char note = 'a'; note <= 'g'; note++) {
                rows.add(row + note);
            }
        }
    }

    /** Of the row's end only what begins a tune can matter to what comes behind. */
    private String beginningAtEnd(String row, int tunesAsBits) {
        for (int from = 0; from < row.length(); from++) {
            String end = row.substring(from);
            for (int t = 0; t < tunes.size(); t++) {
                if ((tunesAsBits >> t & 1) == 1 && tunes.get(t).startsWith(end)) {
                    return end;
                }
            }
        }
        return "";
    }

    int overlap(int t, int u) {
        int most = 0;
        for (int many = 1; many <= tunes.get(u).length(); many++) {
            most = tunes.get(t).endsWith(tunes.get(u).substring(0, many)) ? many : most;
        }
        return most;
    }

    boolean together(int t, int u) {
        return tunes.get(t).length() == tunes.get(u).length() && alike(t, u) == 0;
    }

    /** The partners of each, -2 for none: of all pairings the one with most pairs, then the first. */
    int[] partners() {
        List<int[]> all = new ArrayList<>();
        int[] alone = new int[tunes.size()];
        Arrays.fill(alone, -2);
        pairOn(0, alone, all);
        return all.stream().min((one, other) -> {
            long ones = Arrays.stream(one).filter(u -> u >= 0).count();
            long others = Arrays.stream(other).filter(u -> u >= 0).count();
            return ones != others ? Long.compare(others, ones) : Arrays.compare(rank(one), rank(other));
        }).get();
    }

    private static int[] rank(int[] partners) {
        return Arrays.stream(partners).map(u -> u < 0 ? 99 : u).toArray();
    }

    private void pairOn(int t, int[] partners, List<int[]> all) {
        if (t == partners.length) {
            all.add(partners.clone());
            return;
        }
        pairOn(t + 1, partners, all);
        for (int u = t + 1; u < partners.length && partners[t] < 0; u++) {
            if (partners[u] < 0 && together(t, u)) {
                int[] more = partners.clone();
                more[t] = u;
                more[u] = t;
                pairOn(t + 1, more, all);
            }
        }
    }

    // ---- the stranger, row by row

    List<int[]> rows() {
        List<int[]> all = new ArrayList<>();
        for (int p = 0; p < places; p++) {
            rowOn(new int[] {p}, all);
        }
        return all;
    }

    private void rowOn(int[] row, List<int[]> all) {
        if (row.length == heard.size() + 1) {
            all.add(row);
            return;
        }
        for (int q = 0; q < places; q++) {
            int[] gate = gateOf(row[row.length - 1], q);
            if (gate != null && gate[3] == heard.get(row.length - 1)) {
                int[] longer = Arrays.copyOf(row, row.length + 1);
                longer[row.length] = q;
                rowOn(longer, all);
            }
        }
    }

    static int mostLeft(List<int[]> rows, int k) {
        int most = 0;
        for (int[] told : rows) {
            most = Math.max(most, (int) rows.stream().filter(row -> row[k] == told[k]).count());
        }
        return most;
    }

    // ---- days

    /** Where he is then, how many roads he went, on which day he was at the place first. */
    int[] roam(int x, int goal, int seed, int n) {
        int[] who = people.get(x);
        int[] result = {who[0], 0, 0};
        long s = seed;
        for (int day = 1; day <= n; day++) {
            s = (75 * s + 74) % 65537;
            boolean wet = s % 100 < rain;
            s = (75 * s + 74) % 65537;
            int[] road = roads.get((int) (s % roads.size()));
            boolean end = road[0] == result[0] || road[1] == result[0];
            if (end && passes(who[2], who[3], road[0], road[1], wet)) {
                result[0] = road[0] + road[1] - result[0];
                result[1]++;
            }
            result[2] = result[2] == 0 && result[0] == goal ? day : result[2];
        }
        return result;
    }
}
