import java.util.List;
import java.util.function.Supplier;

/** Holds answers against those that are due, and ends the program with 1 if one was not. */
final class Due {
    private final String of;
    private String sentence = "";
    private int asked;
    private int wrong;

    Due(String of) {
        this.of = of;
    }

    /** What the document says of the answers that follow; told with each one that is not due. */
    void says(String words) {
        sentence = " (" + words + ")";
    }

    void is(String what, long got, long want) {
        asked++;
        if (got != want) {
            wrong++;
            System.out.println(of + sentence + ": " + what + " answered " + got + ", due is " + want);
        }
    }

    void is(String what, boolean got, boolean want) {
        is(what, got ? 1 : 0, want ? 1 : 0);
    }

    /** A call told by its name, as Calls knows it; Model.THROWS stands for the exception. */
    void call(NamesOnLetters x, long want, String name, int... a) {
        is(name + java.util.Arrays.toString(a), Calls.call(x, name, a), want);
    }

    void refused(NamesOnLetters x, String name, int... a) {
        call(x, NamesOnLetters.NONE, name, a);
    }

    void thrown(NamesOnLetters x, String name, int... a) {
        call(x, Model.THROWS, name, a);
    }

    /** A call that changes nothing that a later call shows; made makes the same object each time. */
    void nothing(Supplier<NamesOnLetters> made, long want, String name, int... a) {
        alike(made, made, want, name, a);
    }

    /** A call after which an object shows what another one does without it. */
    void alike(Supplier<NamesOnLetters> made, Supplier<NamesOnLetters> other, long want, String name, int... a) {
        for (int view = 0; view < Shown.VIEWS; view++) {
            NamesOnLetters x = made.get();
            call(x, want, name, a);
            List<String> got = Shown.of(view, x);
            List<String> due = Shown.of(view, other.get());
            String differing = "";
            for (int k = 0; k < due.size() && differing.isEmpty(); k++) {
                boolean same = k < got.size() && got.get(k).equals(due.get(k));
                differing = same ? "" : (k < got.size() ? got.get(k) : "nothing") + ", not " + due.get(k);
            }
            is("after " + name + java.util.Arrays.toString(a) + ": " + differing, got.equals(due), true);
        }
    }

    /** An argument that may be low .. high: taken on both ends and just inside, refused beyond, and then nothing. */
    void range(Supplier<NamesOnLetters> made, int low, int high, String name, int at, int... a) {
        for (int v : new int[] {low, low < high ? low + 1 : low, low < high ? high - 1 : high, high}) {
            long got = Calls.call(made.get(), name, with(a, at, v));
            is(name + java.util.Arrays.toString(with(a, at, v)) + " is refused", got == Calls.refusal(name), false);
        }
        for (int v : new int[] {low - 1, high + 1, Integer.MIN_VALUE, Integer.MAX_VALUE}) {
            nothing(made, Calls.refusal(name), name, with(a, at, v));
        }
    }

    private static int[] with(int[] a, int at, int v) {
        int[] b = a.clone();
        b[at] = v;
        return b;
    }

    /** The whole row, and that nothing stands behind it. */
    void row(NamesOnLetters x, long... want) {
        call(x, want.length, "count", 8);
        for (int i = 0; i < want.length; i++) {
            call(x, want[i], "row", i);
        }
        thrown(x, "row", want.length);
        thrown(x, "row", -1);
    }

    void end() {
        System.out.println(of + ": " + (asked - wrong) + " of " + asked + " answers are as due");
        if (wrong > 0) {
            System.exit(1);
        }
    }

    /** Puts a text into THE TEXT, which is empty before. */
    static void tell(NamesOnLetters x, String text) {
        for (int k = 0; k < text.length(); k += 4) {
            int v = 0;
            for (int j = k; j < k + 4; j++) {
                v = v << 8 | (j < text.length() ? text.charAt(j) : 0);
            }
            x.sign(v);
        }
        x.end(text.length());
    }

    static int law(NamesOnLetters x, int i, String text) {
        tell(x, text);
        return x.law(i);
    }

    static int filter(NamesOnLetters x, int i, String text) {
        tell(x, text);
        return x.filter(i);
    }

    /** Names of the peoples told as digits, otherwise alike. */
    static void names(NamesOnLetters x, String peoples) {
        for (char c : peoples.toCharArray()) {
            x.name(c - '0', 0, 0);
        }
    }

    /** A letter that is read: worth 50, no errors, street 0, day 0. */
    static int read(NamesOnLetters x, int house, int name, boolean rung) {
        return read(x, house, name, 50, 0, rung);
    }

    static int read(NamesOnLetters x, int house, int name, int worth, int es, boolean rung) {
        int i = x.letter(house, name, worth, es, 0);
        x.ring(i, rung);
        return i;
    }
}
