import java.nio.charset.StandardCharsets;

/** What all tests share: a count of wrong answers, and texts fed by twenty bytes. */
final class Check {
    private static int asked = 0;
    private static int wrong = 0;
    private static String topic = "";

    private Check() {
    }

    static void due(String what, long got, long want) {
        asked++;
        if (got != want) {
            wrong++;
            System.out.println(topic + what + " answered " + got + ", due is " + want);
        }
    }

    /** What all wrong answers from now on are told with. */
    static void about(String subject) {
        topic = subject + ": ";
    }

    static int asked() {
        return asked;
    }

    static void due(String what, boolean got, boolean want) {
        due(what, got ? 1 : 0, want ? 1 : 0);
    }

    /** A refused call: its answer is due, and the trouble behind it. */
    static void refused(TuneGates x, String what, long got, int trouble) {
        due(what, got, TuneGates.NONE);
        due("trouble behind " + what, x.trouble(), trouble);
    }

    static void refused(TuneGates x, String what, boolean got, int trouble) {
        due(what, got, false);
        due("trouble behind " + what, x.trouble(), trouble);
    }

    static void fine(TuneGates x, String what, long got, long want) {
        due(what, got, want);
        due("trouble behind " + what, x.trouble(), 0);
    }

    static void feed(TuneGates x, String text) {
        byte[] bytes = text.getBytes(StandardCharsets.ISO_8859_1);
        for (int i = 0; i < bytes.length; i += 20) {
            x.feed(four(bytes, i), four(bytes, i + 4), four(bytes, i + 8), four(bytes, i + 12), four(bytes, i + 16));
        }
    }

    static int read(TuneGates x, String text) {
        feed(x, text);
        return x.turnpike(text.length());
    }

    static TuneGates told(String text) {
        TuneGates x = new TuneGates();
        if (read(x, text) < 0) {
            due("a text without a fault: " + text + " at " + x.where() + ", fault", x.fault(), 0);
        }
        return x;
    }

    static void end(String test) {
        System.out.println(test + ": " + (asked - wrong) + " answers as due, " + wrong + " not");
        if (wrong != 0) {
            System.exit(1);
        }
    }

    private static int four(byte[] bytes, int from) {
        int number = 0;
        for (int i = from; i < from + 4; i++) {
            number = number << 8 | (i < bytes.length ? bytes[i] & 255 : ' ');
        }
        return number;
    }
}
