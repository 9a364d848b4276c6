/** SONG, GO TOGETHER and PAIRS of the Terms, and promises 25 to 30, sentence by sentence. */
public final class EdgesOfSongsTest {
    private static final Scene NOWHERE = Scene.withoutRoad();
    private static final Scene BARE = Scene.of("turnpike rain 0;place a");

    public static void main(String[] args) {
        shortest();
        firstByNotes();
        goTogether();
        mostPairs();
        song();
        songAt();
        overlap();
        together();
        pairs();
        partner();
        Sentence.end("EdgesOfSongsTest");
    }

    static Scene tunes(String tunes) {
        StringBuilder text = new StringBuilder("turnpike rain 0;place z");
        char name = 'k';
        for (String tune : tunes.split(" ")) {
            text.append(";tune ").append(name++).append(' ').append(tune);
        }
        return Scene.of(text.toString());
    }

    private static void sung(Scene scene, int set, String due) {
        scene.tells(due.length(), "song " + set, x -> x.song(set));
        for (int i = 0; i < due.length(); i++) {
            int at = i;
            scene.tells(due.charAt(i) - 'a', "song " + set + " at " + i, x -> x.songAt(set, at));
        }
        scene.refuses(1, "song " + set + " at its end", x -> x.songAt(set, due.length()));
    }

    private static void all(String tunes, String due) {
        sung(tunes(tunes), (1 << tunes.split(" ").length) - 1, due);
    }

    private static void shortest() {
        Sentence.is("SONG of some tunes: the shortest row of notes in which each of them stands;");
        all("ab", "ab");
        all("gfedcbag", "gfedcbag");
        all("ab bc", "abc");
        all("bc ab", "abc");
        all("ab ab ab ab ab ab", "ab");
        all("ab abc cabcd", "cabcd");
        all("cabcd abc ab", "cabcd");
        all("abcde bcd", "abcde");
        all("abcde bcd eg", "abcdeg");
        all("abc cab abca", "abcab");
        all("ag gb bf fc ce ed", "agbfced");
        all("aaaaaaaa bbbbbbbb cccccccc dddddddd eeeeeeee ffffffff",
            "aaaaaaaabbbbbbbbccccccccddddddddeeeeeeeeffffffff");
        all("aab abb", "aabb");
        all("abab baba", "ababa");
        // By the greatest overlap, of the first and the last, it would be longer.
        all("cabab baba ababd", "cabababd");
        all("cde efg gab", "cdefgab");
    }

    private static void firstByNotes() {
        Sentence.is("of like ones the first by notes.");
        all("gg aa", "aagg");
        all("ba ab", "aba");
        all("ga ab bg", "abga");
        all("bb ab ba", "abba");
        all("gf fg ff", "ffgf");
        all("cb bc cc bb", "bbccb");
        all("ff ee dd cc bb aa", "aabbccddeeff");
    }

    private static void together(String tunes, int due) {
        tunes(tunes).tells(due, "together of " + tunes, x -> x.together(0, 1));
        tunes(tunes).tells(due, "together of " + tunes + ", the other way", x -> x.together(1, 0));
        tunes(tunes).inRain().tells(due, "together in rain of " + tunes, x -> x.together(0, 1));
    }

    private static void goTogether() {
        Sentence.is("Two tunes GO TOGETHER if they are as long as each other and unlike in every note.");
        together("aa bb", 1);
        together("ab ba", 1);
        together("aa aa", 0);
        together("aa ab", 0);
        together("aa ba", 0);
        together("aa bbb", 0);
        together("aaaaaaaa bbbbbbbb", 1);
        together("aaaaaaaa bbbbbbba", 0);
        together("abcdefga bcdefgab", 1);
    }

    private static void paired(String tunes, int many, int... partners) {
        Scene scene = tunes(tunes);
        scene.tells(many, "pairs of " + tunes, x -> x.pairs());
        for (int t = 0; t < partners.length; t++) {
            int tune = t;
            scene.tells(partners[t], "partner of " + t + " of " + tunes, x -> x.partner(tune));
        }
    }

    private static void mostPairs() {
        Sentence.is("PAIRS: the most such, each tune in one at most;");
        paired("aa bb bc ac", 2, 2, 3, 0, 1);
        paired("aa bb cc dd ee ff", 3, 1, 0, 3, 2, 5, 4);
        paired("aa bb ab ba ca", 2, 1, 0, 3, 2, -2);
        paired("ab aa bb ac cb", 2, -2, 2, 1, 4, 3);
        Sentence.is("of like ones the first by tunes (with the least one, then alone).");
        paired("aa bb cc", 1, 1, 0, -2);
        paired("aa ab bb cc", 2, 2, 3, 0, 1);
        paired("aa ab ba bb", 2, 3, 2, 1, 0);
        paired("aa ab ac bd", 1, 3, -2, -2, 0);
        paired("aaa bb cc dd", 1, -2, 2, 1, -2);
        // The first goes with the second or the fourth, the third with the fourth or the fifth.
        paired("ggaaaa bbgggb gcgccc dddgdg egeegg", 2, 1, 0, 3, 2, -2);
    }

    private static void song() {
        Sentence.is("SONG of tunes, as bits (1 .. all): how many notes. NONE: 1.");
        for (int many = 1; many <= 6; many++) {
            Scene some = tunes("aa bb cc dd ee ff".substring(0, 3 * many - 1));
            int all = (1 << many) - 1;
            some.tells(2, "the first alone", x -> x.song(1));
            some.tells(2 * Integer.bitCount(all), "all", x -> x.song(all));
            for (int none : new int[] {0, -1, all + 1, all + 2, 64, 128, 1 << 30, Integer.MAX_VALUE, Integer.MIN_VALUE}) {
                some.refuses(1, "song " + none + " of " + many, x -> x.song(none));
                some.refuses(1, "songAt " + none + " of " + many, x -> x.songAt(none, 0));
            }
            int last = 1 << many - 1;
            some.tells(many - 1, "the last alone", x -> x.songAt(last, 1));
        }
        BARE.refuses(1, "without tunes", x -> x.song(0));
        BARE.refuses(1, "one without tunes", x -> x.song(1));
        NOWHERE.refuses(1, "without a ROAD", x -> x.song(1));
    }

    private static void songAt() {
        Sentence.is("The i-th of its notes. NONE: 1 (i, too).");
        Scene two = tunes("ab bc");
        sung(two, 3, "abc");
        sung(two.inRain(), 3, "abc");
        for (int none : Scene.outside(3)) {
            two.refuses(1, "note " + none, x -> x.songAt(3, none));
        }
        for (int none : Scene.outside(2)) {
            two.refuses(1, "note of one " + none, x -> x.songAt(1, none));
        }
        two.after(x -> x.song(3)).refuses(1, "note of one, behind the song of both", x -> x.songAt(2, 2));
        two.after(x -> x.song(1)).tells(2, "note of both, behind the song of one", x -> x.songAt(3, 2));
        Scene anew = two.after(x -> x.song(3)).after(x -> Check.read(x, "turnpike rain 0;place a;tune k ff;tune l gg"));
        sung(anew, 3, "ffgg");
        sung(anew.after(x -> x.song(3)), 2, "gg");
        BARE.refuses(1, "without tunes", x -> x.songAt(1, 0));
        NOWHERE.refuses(1, "without a ROAD", x -> x.songAt(1, 0));
    }

    private static void overlaps(String tunes, int one, int other) {
        tunes(tunes).tells(one, "overlap of " + tunes, x -> x.overlap(0, 1));
        tunes(tunes).tells(other, "overlap of " + tunes + ", the other way", x -> x.overlap(1, 0));
        tunes(tunes).inRain().tells(one, "overlap in rain of " + tunes, x -> x.overlap(0, 1));
    }

    private static void overlap() {
        Sentence.is("How many notes the end of a tune and the beginning of another one have in common, at most."
            + " NONE: 1 (unlike).");
        overlaps("ab cd", 0, 0);
        overlaps("ab bc", 1, 0);
        overlaps("ab ba", 1, 1);
        overlaps("ab ab", 2, 2);
        overlaps("aa aaaaaaaa", 2, 2);
        overlaps("cab ab", 2, 0);
        overlaps("abcdefga abcdefga", 8, 8);
        overlaps("abab babc", 3, 0);
        overlaps("abcabc abcd", 3, 0);
        overlaps("bcd abcde", 0, 0);
        Scene six = tunes("aa aa aa aa aa aa");
        six.tells(2, "the last two", x -> x.overlap(4, 5));
        for (int t = 0; t < 6; t++) {
            int same = t;
            six.refuses(1, "alike " + t, x -> x.overlap(same, same));
        }
        for (int none : Scene.outside(6)) {
            six.refuses(1, "overlap to " + none, x -> x.overlap(0, none));
            six.refuses(1, "overlap of " + none, x -> x.overlap(none, 0));
        }
        tunes("aa").refuses(1, "one alone", x -> x.overlap(0, 1));
        NOWHERE.refuses(1, "without a ROAD", x -> x.overlap(0, 1));
    }

    private static void together() {
        Sentence.is("1 if two GO TOGETHER, else 0. NONE: 1 (unlike).");
        Scene six = tunes("aa aa aa aa aa bb");
        six.tells(1, "the last two", x -> x.together(4, 5));
        six.tells(0, "two alike", x -> x.together(3, 4));
        for (int t = 0; t < 6; t++) {
            int same = t;
            six.refuses(1, "one twice " + t, x -> x.together(same, same));
        }
        for (int none : Scene.outside(6)) {
            six.refuses(1, "together with " + none, x -> x.together(0, none));
            six.refuses(1, "together of " + none, x -> x.together(none, 0));
        }
        tunes("aa").refuses(1, "one alone", x -> x.together(0, 1));
        NOWHERE.refuses(1, "without a ROAD", x -> x.together(0, 1));
    }

    private static void pairs() {
        Sentence.is("PAIRS: how many. NONE: 1 (no ROAD).");
        BARE.tells(0, "without tunes", x -> x.pairs());
        tunes("aa").tells(0, "one alone", x -> x.pairs());
        tunes("aa aa aa aa aa aa").tells(0, "six alike", x -> x.pairs());
        tunes("aa aa aa bb bb bb").tells(3, "three and three", x -> x.pairs());
        tunes("aa aa aa aa bb bb").tells(2, "four and two", x -> x.pairs());
        NOWHERE.refuses(1, "without a ROAD", x -> x.pairs());
        Scene anew = tunes("aa bb").after(x -> Check.read(x, "turnpike rain 0;place a;tune k ff;tune l ff"));
        anew.tells(0, "of the ROAD from now on", x -> x.pairs());
        anew.tells(-2, "partner of the ROAD from now on", x -> x.partner(0));
    }

    private static void partner() {
        Sentence.is("With which tune one is in the first; -2 with none. NONE: 1.");
        paired("aa", 0, -2);
        paired("aa aa aa bb bb bb", 3, 3, 4, 5, 0, 1, 2);
        paired("aa aa aa aa bb bb", 2, 4, 5, -2, -2, 0, 1);
        Scene two = tunes("aa bb");
        for (int none : Scene.outside(2)) {
            two.refuses(1, "partner of " + none, x -> x.partner(none));
        }
        tunes("aa aa aa aa aa bb").refuses(1, "behind six", x -> x.partner(6));
        BARE.refuses(1, "without tunes", x -> x.partner(0));
        NOWHERE.refuses(1, "without a ROAD", x -> x.partner(0));
    }
}
