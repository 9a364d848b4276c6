import java.util.ArrayList;
import java.util.List;
import java.util.NoSuchElementException;
import java.util.function.Consumer;
import java.util.function.Predicate;
import java.util.function.ToIntFunction;

/**
 * Objects that are all alike, made anew for each call that is tested: told a text, then some calls ahead. A call that
 * is no ACT changes nothing, nor does one that is refused; and it is the latest that may be refused.
 */
final class Scene {
    private final String text;
    private final Consumer<TuneGates> ahead;

    private Scene(String text, Consumer<TuneGates> ahead) {
        this.text = text;
        this.ahead = ahead;
    }

    static Scene withoutRoad() {
        return new Scene(null, x -> { });
    }

    static Scene of(String text) {
        return new Scene(text, x -> { });
    }

    Scene after(Consumer<TuneGates> calls) {
        return new Scene(text, ahead.andThen(calls));
    }

    Scene inRain() {
        return after(x -> x.rain(true));
    }

    /** Of the calls that may be refused the latest was by 4, so that each number a call leaves can be seen. */
    TuneGates made() {
        TuneGates x = text == null ? new TuneGates() : Check.told(text);
        ahead.accept(x);
        x.turnpike(0);
        return x;
    }

    /** The call is answered, and changes nothing. */
    void tells(int due, String what, ToIntFunction<TuneGates> call) {
        quietly(due, 0, what, call);
    }

    /** The call is refused, and changes nothing. */
    void refuses(int trouble, String what, ToIntFunction<TuneGates> call) {
        quietly(TuneGates.NONE, trouble, what, call);
    }

    void denies(int trouble, String what, Predicate<TuneGates> call) {
        quietly(0, trouble, what, x -> call.test(x) ? 1 : 0);
    }

    /** The call is refused by its own answer. */
    void refusesBy(int due, int trouble, String what, ToIntFunction<TuneGates> call) {
        quietly(due, trouble, what, call);
    }

    /** An ACT, or another call that changes something: it is answered. */
    TuneGates does(int due, String what, ToIntFunction<TuneGates> call) {
        TuneGates x = made();
        check(x, what, call.applyAsInt(x), due, 0);
        return x;
    }

    TuneGates allows(String what, Predicate<TuneGates> call) {
        return does(1, what, x -> call.test(x) ? 1 : 0);
    }

    private void quietly(int due, int trouble, String what, ToIntFunction<TuneGates> call) {
        TuneGates x = made();
        String before = state(x);
        x.turnpike(0);
        check(x, what, call.applyAsInt(x), due, trouble);
        Check.due(what + ": fault stays", x.fault(), 1);
        String after = state(x);
        Check.due(what + " changes " + before + " to " + after, before.equals(after), true);
    }

    private static void check(TuneGates x, String what, int got, int due, int trouble) {
        Check.due(what, got, due);
        Check.due(what + ": trouble", x.trouble(), trouble);
        Check.due(what + ": where", x.where(), TuneGates.NONE);
    }

    /** All that is told of the people, and all sizes. */
    static String state(TuneGates x) {
        List<Integer> all = new ArrayList<>();
        for (int what = 0; what <= 12; what++) {
            all.add(x.size(what));
        }
        for (int who = 0; who < x.size(6); who++) {
            for (int what = 0; what < 5; what++) {
                all.add(x.person(who, what));
            }
        }
        all.add(led(x, 0));
        return all.toString();
    }

    static int led(TuneGates x, int i) {
        try {
            return x.led(i);
        } catch (NoSuchElementException none) {
            return TuneGates.NONE;
        }
    }

    /** Numbers of which none is among so many from 0 on; those by 32 and 64 more are such by a shift too far. */
    static int[] outside(int many) {
        return new int[] {-1, many, many + 1, 32, 33, 64, 256, 65536, -32, -64, Integer.MAX_VALUE, Integer.MIN_VALUE};
    }
}
