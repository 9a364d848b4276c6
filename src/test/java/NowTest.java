/** Promises 6 to 15: length, sung, road, gate, inn, person, lifts, passes, opens, likest. */
public final class NowTest {
    private static final String TEXT = "turnpike rain 30;tune abc abc;tune abd abd;tune gg gg;tune aa aa;tune abe abe"
        + ";place p;place q;place r;place s;place u"
        + ";road p q minutes 5;road r q minutes 9;road r s minutes 7;road p s minutes 99;road p r minutes 1"
        + ";gate q p strict abc;gate q r kind abc;gate r s deaf gg;gate p s forgot abe"
        + ";inn p sells abd price 3;inn q forges abc price 0"
        + ";person x at p coins 20;person y at q coins 0;person z at s coins 999;knows y abd;knows y gg;knows x abc";

    public static void main(String[] args) {
        lengthAndSung();
        roadAndGate();
        innAndPerson();
        lifts();
        passes();
        opensAndLikest();
        Check.end("NowTest");
    }

    private static void lengthAndSung() {
        TuneGates x = Check.told(TEXT);
        Check.fine(x, "length", x.length(0), 3);
        Check.fine(x, "length of two", x.length(2), 2);
        Check.refused(x, "length of none", x.length(5), 1);
        Check.refused(x, "length below", x.length(-1), 1);
        Check.fine(x, "sung", x.sung(0, 2, false), 2);
        Check.fine(x, "sung forged", x.sung(0, 2, true), 3);
        Check.fine(x, "sung forged, not the last", x.sung(0, 1, true), 1);
        Check.fine(x, "sung forged g", x.sung(2, 1, true), 5);
        Check.refused(x, "sung behind the end", x.sung(0, 3, false), 1);
        Check.refused(x, "sung ahead", x.sung(0, -1, false), 1);
        Check.refused(x, "sung of none", x.sung(5, 0, false), 1);
        x.rain(true);
        Check.fine(x, "sung in rain", x.sung(0, 2, false), 1);
        Check.fine(x, "sung in rain, not the last", x.sung(0, 1, false), 1);
        Check.fine(x, "sung in rain, forged", x.sung(0, 2, true), 2);
        Check.fine(x, "sung in rain, forged g", x.sung(2, 1, true), 4);
        Check.fine(x, "sung in rain, g", x.sung(2, 1, false), 5);
        Check.fine(x, "sung in rain, a", x.sung(3, 1, false), 0);
        Check.fine(x, "sung in rain, forged a", x.sung(3, 1, true), 0);
        Check.fine(x, "sung in rain, forged, ahead", x.sung(3, 0, true), 0);
    }

    private static void roadAndGate() {
        TuneGates x = Check.told(TEXT);
        Check.fine(x, "road", x.road(0, 1), 5);
        Check.fine(x, "road back", x.road(1, 0), 5);
        Check.fine(x, "road of 99", x.road(3, 0), 99);
        Check.fine(x, "no road", x.road(0, 4), -2);
        Check.refused(x, "road to itself", x.road(2, 2), 1);
        Check.refused(x, "road to none", x.road(0, 5), 1);
        Check.refused(x, "road from none", x.road(-1, 0), 1);
        int[][] gates = {{0, 1, 0, 0}, {1, 2, 1, 0}, {3, 2, 2, 2}, {3, 0, 3, 4}};
        for (int[] gate : gates) {
            Check.fine(x, "kind", x.gate(gate[0], gate[1], 0), gate[2]);
            Check.fine(x, "kind back", x.gate(gate[1], gate[0], 0), gate[2]);
            Check.fine(x, "tune", x.gate(gate[0], gate[1], 1), gate[3]);
        }
        Check.fine(x, "a road without a gate", x.gate(0, 2, 0), -2);
        Check.fine(x, "no road, no gate", x.gate(0, 4, 1), -2);
        Check.refused(x, "gate, what", x.gate(0, 1, 2), 1);
        Check.refused(x, "gate, what", x.gate(0, 1, -1), 1);
        Check.refused(x, "gate to itself", x.gate(0, 0, 0), 1);
        Check.refused(x, "gate to none", x.gate(0, 5, 0), 1);
    }

    private static void innAndPerson() {
        TuneGates x = Check.told(TEXT);
        int[][] inns = {{0, 1, 0, 3}, {1, 0, 1, 0}};
        int[][] people = {{0, 20, 1, 0, 0}, {1, 0, 6, 0, 0}, {3, 999, 0, 0, 0}};
        for (int k = 0; k < inns.length; k++) {
            for (int what = 0; what < 4; what++) {
                Check.fine(x, "inn " + k + " " + what, x.inn(k, what), inns[k][what]);
            }
        }
        for (int k = 0; k < people.length; k++) {
            for (int what = 0; what < 5; what++) {
                Check.fine(x, "person " + k + " " + what, x.person(k, what), people[k][what]);
            }
        }
        Check.refused(x, "inn", x.inn(2, 0), 1);
        Check.refused(x, "inn", x.inn(-1, 0), 1);
        Check.refused(x, "inn, what", x.inn(0, 4), 1);
        Check.refused(x, "inn, what", x.inn(0, -1), 1);
        Check.refused(x, "person", x.person(3, 0), 1);
        Check.refused(x, "person", x.person(-1, 0), 1);
        Check.refused(x, "person, what", x.person(0, 5), 1);
        Check.refused(x, "person, what", x.person(0, -1), 1);
    }

    private static void lifts() {
        TuneGates x = Check.told(TEXT);
        lift(x, 0, 1, "1000000000");
        lift(x, 1, 2, "1111000011");
        lift(x, 2, 3, "0000111100");
        lift(x, 0, 3, "1111111111");
        lift(x, 0, 2, "1111111111");
        x.rain(true);
        lift(x, 0, 1, "0110000000");
        lift(x, 1, 2, "1111000011");
        lift(x, 2, 3, "0000111100");
        Check.refused(x, "lifts, no road", x.lifts(0, 4, 0, false), 1);
        Check.refused(x, "lifts, no tune", x.lifts(0, 1, 5, false), 1);
        Check.refused(x, "lifts, no tune", x.lifts(0, 2, -1, false), 1);
        Check.refused(x, "lifts, no place", x.lifts(0, 5, 0, false), 1);
        Check.refused(x, "lifts, one place", x.lifts(1, 1, 0, false), 1);

        TuneGates y = Check.told("turnpike rain 5;tune k abcd;tune l bbcd;tune m bacd;tune n abce;tune o bbce;place a"
            + ";place b;road a b minutes 1;gate a b kind k");
        lift(y, 0, 1, "1110001100");
        y.rain(true);
        lift(y, 0, 1, "1101001110");
    }

    /** For each tune two signs: as it is, then forged. */
    private static void lift(TuneGates x, int p, int q, String due) {
        for (int i = 0; i < due.length(); i++) {
            int want = due.charAt(i) - '0';
            Check.fine(x, "lifts " + p + q + " " + i, x.lifts(p, q, i / 2, i % 2 == 1), want);
            Check.fine(x, "lifts " + q + p + " " + i, x.lifts(q, p, i / 2, i % 2 == 1), want);
        }
    }

    private static void passes() {
        TuneGates x = Check.told(TEXT);
        Check.fine(x, "passes by his tune", x.passes(0, 0, 1), 1);
        Check.fine(x, "passes back", x.passes(0, 1, 0), 1);
        Check.fine(x, "passes by a like tune", x.passes(1, 1, 2), 1);
        Check.fine(x, "a strict one not", x.passes(1, 1, 0), 0);
        Check.fine(x, "a deaf one by one as long", x.passes(1, 3, 2), 1);
        Check.fine(x, "a deaf one not by a longer one", x.passes(0, 3, 2), 0);
        Check.fine(x, "one that forgot", x.passes(1, 0, 3), 1);
        Check.fine(x, "one that forgot hears nothing of who knows nothing", x.passes(2, 0, 3), 0);
        Check.fine(x, "without a gate anybody", x.passes(2, 0, 2), 1);
        Check.refused(x, "passes, no road", x.passes(0, 0, 4), 1);
        Check.refused(x, "passes, nobody", x.passes(3, 0, 1), 1);
        Check.refused(x, "passes, no place", x.passes(0, 0, 5), 1);
        Check.refused(x, "passes, one place", x.passes(0, 0, 0), 1);
        x.rain(true);
        Check.fine(x, "in rain not", x.passes(0, 0, 1), 0);
        Check.fine(x, "in rain by one higher", x.passes(1, 0, 1), 1);
        x.rain(false);
        x.go(0, 1);
        x.buy(0, 1);
        x.rain(true);
        Check.fine(x, "in rain by the forged one", x.passes(0, 0, 1), 1);
    }

    private static void opensAndLikest() {
        TuneGates x = Check.told(TEXT);
        int[] dry = {3, 2, 2, 2, 2};
        int[] wet = {2, 3, 2, 2, 2};
        for (int t = 0; t < 5; t++) {
            Check.fine(x, "opens " + t, x.opens(t), dry[t]);
        }
        x.rain(true);
        for (int t = 0; t < 5; t++) {
            Check.fine(x, "opens in rain " + t, x.opens(t), wet[t]);
        }
        Check.refused(x, "opens", x.opens(5), 1);
        Check.refused(x, "opens", x.opens(-1), 1);
        Check.fine(x, "likest, the first two", x.likest(), 1);
        TuneGates y = new TuneGates();
        Check.refused(y, "likest without a road", y.likest(), 1);
        likest("ab cd cdd", 1);
        likest("ab cdd efef", -2);
        likest("ab", -2);
        likest("abc ba bc cbc", 3);
        likest("abc ba bb cba", 3);
        likest("abc ba bb cab", 12);
        likest("abc baa def dee bab", 14);
        likest("abcd ab bcda ab cdab", 13);
    }

    private static void likest(String tunes, int want) {
        TuneGates x = tunes(tunes);
        Check.fine(x, "likest of " + tunes, x.likest(), want);
    }

    static TuneGates tunes(String tunes) {
        StringBuilder text = new StringBuilder("turnpike rain 5;place p");
        char name = 's';
        for (String notes : tunes.split(" ")) {
            text.append(";tune ").append(name++).append(' ').append(notes);
        }
        return Check.told(text.toString());
    }
}
