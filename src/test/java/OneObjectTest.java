/**
 * Text behind text on one object, against the naive model: a ROAD that is read leaves nothing of the one from before,
 * a text with a FAULT leaves all of it, with its ACTS and MARKS.
 */
public final class OneObjectTest {
    private static final int OBJECTS = 25;
    private static final int TEXTS = 8;
    private static int faults = 0;
    private static int replaced = 0;

    public static void main(String[] args) {
        for (int i = 0; i < OBJECTS; i++) {
            TuneGates x = new TuneGates();
            Naive last = null;
            for (int k = 0; k < TEXTS; k++) {
                last = next(x, last);
            }
        }
        Check.due("some texts have a fault", faults > OBJECTS, true);
        Check.due("some roads are replaced", replaced > OBJECTS, true);
        Check.end("OneObjectTest");
    }

    /** The model of the ROAD that the object has behind one text more; null without one. */
    private static Naive next(TuneGates x, Naive last) {
        String text = NaiveTest.any(3) == 0 ? NaiveTest.slipped(NaiveTest.text()) : NaiveTest.text();
        Naive model = new Naive(text);
        String before = Scene.state(x);
        int places = Check.read(x, text);
        Check.due("fault of " + text, x.fault(), model.fault);
        if (model.fault != 0) {
            faults++;
            Check.due("where of " + text, x.where(), model.where);
            Check.refused(x, "a text with a fault", places, 4);
            stays(x, last, before);
            return last;
        }
        replaced += last == null ? 0 : 1;
        Check.fine(x, "places of " + text, places, model.places);
        Check.due("nothing to undo, no MARKS, no RAIN", x.size(10) + x.size(11) + x.size(9), 0);
        NaiveTest.compareAll(x, model);
        NaiveTest.acts(x, model);
        return model;
    }

    private static void stays(TuneGates x, Naive last, String before) {
        Check.due("all stays behind a fault", Scene.state(x).equals(before), true);
        if (last == null) {
            Check.refused(x, "there is still no ROAD", x.rows(), 1);
        } else {
            NaiveTest.compareAll(x, last);
        }
    }
}
