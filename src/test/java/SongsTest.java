/** Promises 25 to 30: song, songAt, overlap, together, pairs, partner. */
public final class SongsTest {
    public static void main(String[] args) {
        songs();
        overlaps();
        together();
        pairs();
        Check.end("SongsTest");
    }

    private static void song(TuneGates x, int tunes, String due) {
        Check.fine(x, "song " + tunes, x.song(tunes), due.length());
        for (int i = 0; i < due.length(); i++) {
            Check.fine(x, "song " + tunes + " at " + i, x.songAt(tunes, i), due.charAt(i) - 'a');
        }
        Check.refused(x, "song " + tunes + " at its end", x.songAt(tunes, due.length()), 1);
        Check.refused(x, "song " + tunes + " ahead of it", x.songAt(tunes, -1), 1);
    }

    private static void all(String tunes, String due) {
        TuneGates x = NowTest.tunes(tunes);
        song(x, (1 << x.size(1)) - 1, due);
    }

    private static void songs() {
        TuneGates x = NowTest.tunes("abc cde gb ab efg");
        song(x, 1, "abc");
        song(x, 3, "abcde");
        song(x, 4, "gb");
        song(x, 8, "ab");
        song(x, 9, "abc");
        song(x, 19, "abcdefg");
        song(x, 31, "abcdefgb");
        song(x, 6, "cdegb");
        song(x, 3, "abcde");
        Check.refused(x, "song of none", x.song(0), 1);
        Check.refused(x, "song below", x.song(-1), 1);
        Check.refused(x, "song of more", x.song(32), 1);
        Check.refused(x, "song of the most", x.song(Integer.MIN_VALUE), 1);
        Check.refused(x, "songAt of none", x.songAt(0, 0), 1);
        Check.refused(x, "songAt of more", x.songAt(33, 0), 1);
        TuneGates none = new TuneGates();
        Check.refused(none, "song without a road", none.song(1), 1);
        Check.refused(none, "songAt without a road", none.songAt(1, 0), 1);

        all("ba ab", "aba");
        all("cd ab", "abcd");
        all("cd ab ab", "abcd");
        all("ab ab", "ab");
        all("bcd abcde cd", "abcde");
        all("abab baba", "ababa");
        all("aa aaa aaaa", "aaaa");
        all("ab bc ca", "abca");
        all("abcdefga gabcdefg", "gabcdefga");
        all("aaaaaaaa bbbbbbbb cccccccc dddddddd eeeeeeee ffffffff",
            "aaaaaaaabbbbbbbbccccccccddddddddeeeeeeeeffffffff");
        all("gg fg ff ef ee ge", "eeffgge");
        all("bab aba", "abab");

        TuneGates y = NowTest.tunes("ab bc");
        song(y, 3, "abc");
        Check.read(y, "turnpike rain 5;place p;tune k ef;tune l ga");
        song(y, 3, "efga");
        y.rain(true);
        song(y, 3, "efga");
    }

    private static void overlaps() {
        TuneGates x = NowTest.tunes("abc cde bcd ab abc aba");
        int[][] due = {{0, 1, 1}, {1, 0, 0}, {0, 2, 2}, {3, 0, 2}, {0, 3, 0}, {0, 4, 3}, {5, 0, 1}, {5, 3, 1},
            {3, 5, 2}, {2, 1, 2}, {1, 2, 0}};
        for (int[] each : due) {
            Check.fine(x, "overlap " + each[0] + " " + each[1], x.overlap(each[0], each[1]), each[2]);
        }
        Check.refused(x, "overlap of one", x.overlap(2, 2), 1);
        Check.refused(x, "overlap", x.overlap(6, 2), 1);
        Check.refused(x, "overlap", x.overlap(0, 6), 1);
        Check.refused(x, "overlap", x.overlap(-1, 0), 1);
        Check.refused(x, "overlap", x.overlap(0, -1), 1);
    }

    private static void together() {
        TuneGates x = NowTest.tunes("ab ba abc bb cd");
        Check.fine(x, "together", x.together(0, 1), 1);
        Check.fine(x, "together back", x.together(1, 0), 1);
        Check.fine(x, "together, not as long", x.together(0, 2), 0);
        Check.fine(x, "together, alike in one", x.together(0, 3), 0);
        Check.refused(x, "together of one", x.together(0, 0), 1);
        Check.refused(x, "together", x.together(5, 0), 1);
        Check.refused(x, "together", x.together(0, 5), 1);
        Check.refused(x, "together", x.together(0, -1), 1);
    }

    private static void pairs(String tunes, int many, int... partners) {
        TuneGates x = NowTest.tunes(tunes);
        Check.fine(x, "pairs of " + tunes, x.pairs(), many);
        for (int t = 0; t < partners.length; t++) {
            Check.fine(x, "partner of " + t + " of " + tunes, x.partner(t), partners[t]);
        }
        Check.refused(x, "partner", x.partner(partners.length), 1);
        Check.refused(x, "partner", x.partner(-1), 1);
    }

    private static void pairs() {
        pairs("aa", 0, -2);
        pairs("aa ab", 0, -2, -2);
        pairs("aa bb", 1, 1, 0);
        pairs("aa bb cc", 1, 1, 0, -2);
        pairs("aa bb cc dd", 2, 1, 0, 3, 2);
        pairs("ab ca ad bc", 2, 1, 0, 3, 2);
        pairs("ab bc cb", 1, 1, 0, -2);
        pairs("aa bb ab cc", 2, 1, 0, 3, 2);
        pairs("aa bb ab ba", 2, 1, 0, 3, 2);
        pairs("aa bb ca bb", 2, 1, 0, 3, 2);
        pairs("aa bb bb ab", 1, 1, 0, -2, -2);
        pairs("ab aa bb ac cb", 2, -2, 2, 1, 4, 3);
        pairs("aa bb bc ac", 2, 2, 3, 0, 1);
        pairs("aaa bbb cc dd ee aab", 2, 1, 0, 3, 2, -2, -2);
        TuneGates none = new TuneGates();
        Check.refused(none, "pairs without a road", none.pairs(), 1);
        Check.refused(none, "partner without a road", none.partner(0), 1);
        TuneGates y = Check.told("turnpike rain 5;place p");
        Check.fine(y, "pairs without tunes", y.pairs(), 0);
    }
}
