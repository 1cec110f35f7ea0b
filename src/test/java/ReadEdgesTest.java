/** The edges of promises 12 to 16: read, ring, box, after, seed. */
public final class ReadEdgesTest {
    private static final Due due = new Due("edges of reading");

    public static void main(String[] args) {
        readArguments();
        fewerThanAsked();
        byDaysThenNumbers();
        ringArguments();
        ringWithoutADraw();
        boxArguments();
        boxTheseFirst();
        aboveAndBelowNothing();
        bytes();
        shorts();
        ints();
        entriesAndLetters();
        missingBox();
        afterArguments();
        afterRungOnes();
        seeds();
        due.end();
    }

    private static NamesOnLetters unread(int letters) {
        NamesOnLetters x = new NamesOnLetters();
        Due.names(x, "01");
        for (int h = 0; h < 24; h++) {
            x.house(0, 0, 0);
        }
        for (int i = 0; i < letters; i++) {
            x.letter(i / 4, i % 2, 50, 0, i * 7 % 400);
        }
        return x;
    }

    private static void readArguments() {
        due.says("12: The n (0 .. 96) LETTERS that are READ next. Refused: others");
        due.range(States::rich, 0, 96, "read", 0, 0);
        due.nothing(States::rich, 0, "read", 0);
        due.nothing(() -> unread(0), 0, "read", 96);
    }

    private static void fewerThanAsked() {
        due.says("12: all if there are fewer");
        int[][] cases = {{96, 96}, {96, 95}, {95, 96}, {95, 95}, {96, 1}, {1, 1}, {1, 2}, {1, 96}, {2, 1}};
        for (int[] c : cases) {
            NamesOnLetters x = unread(c[0]);
            Due.law(x, 0, "100");
            int read = Math.min(c[0], c[1]);
            due.call(x, read, "read", c[1]);
            due.call(x, read, "count", 3);
            due.call(x, read, "count", 4);
            int r = 1;
            for (int k = 0; k < read; k++) {
                r = r * 1103515245 + 12345;
            }
            due.call(x, r, "seed", 1);
        }
        NamesOnLetters x = unread(3);
        x.read(96);
        due.call(x, 0, "read", 96);
        due.call(x, 3, "count", 3);
        x.letter(1, 0, 0, 0, 0);
        due.call(x, 0, "read", 96);
        due.call(x, 4, "count", 3);
    }

    private static void byDaysThenNumbers() {
        due.says("12: of those not READ by DAYS, of equal ones by numbers");
        NamesOnLetters x = new NamesOnLetters();
        Due.names(x, "0");
        x.house(0, 0, 0);
        x.house(0, 0, 0);
        int[] days = {399, 1, 0, 1, 399, 0, 398};
        for (int i = 0; i < days.length; i++) {
            x.letter(i / 4, 0, 0, 0, days[i]);
        }
        x.ring(3, false);
        int[] order = {2, 5, 1, 6, 0, 4};
        for (int i : order) {
            due.call(x, 0, "of", i, 6);
            x.read(1);
            due.call(x, 1, "of", i, 6);
        }
        // one that is told later, and has a lesser day, is next
        NamesOnLetters y = unread(4);
        y.letter(1, 0, 0, 0, 399);
        y.letter(1, 0, 0, 0, 0);
        y.read(1);
        due.call(y, 1, "of", 0, 6);
        y.read(1);
        due.call(y, 1, "of", 5, 6);
        y.letter(1, 0, 0, 0, 0);
        y.read(1);
        due.call(y, 1, "of", 6, 6);
        due.call(y, 3, "count", 3);
    }

    private static void ringArguments() {
        due.says("13: Refused: none such, it is READ");
        for (int is = 0; is < 2; is++) {
            for (int i : new int[] {-1, 9, 10, 95, 96, Integer.MIN_VALUE, Integer.MAX_VALUE}) {
                due.nothing(States::rich, 0, "ring", i, is);
            }
            for (int i : new int[] {0, 1, 3, 4, 5}) {
                due.nothing(States::rich, 0, "ring", i, is);
            }
            for (int i : new int[] {2, 6, 7, 8}) {
                NamesOnLetters x = States.rich();
                due.call(x, 1, "ring", i, is);
                due.call(x, 1, "of", i, 6);
                due.call(x, is, "of", i, 7);
                due.call(x, 0, "of", i, 8);
                due.call(x, 0, "ring", i, 1 - is);
                due.call(x, is, "of", i, 7);
                due.call(x, 6, "count", 3);
                due.call(x, 3 + is, "count", 4);
            }
        }
    }

    private static void ringWithoutADraw() {
        due.says("13: (without a DRAW)");
        NamesOnLetters x = unread(2);
        x.ring(0, true);
        x.ring(1, false);
        due.call(x, 1, "seed", 1);
        due.says("14: a box tells them, no DRAW");
        NamesOnLetters y = unread(8);
        y.box(2, 2, 1, 0);
        y.box(3, 0, 0, 0);
        due.call(y, 1, "seed", 1);
        due.call(y, 8, "count", 3);
    }

    private static void boxArguments() {
        due.says("14: -2: n below 0 (of kinds 0 .. 2; nothing changes). NONE: another kind, n above 96");
        for (int kind = 0; kind < 3; kind++) {
            for (int n : new int[] {-1, -2, Integer.MIN_VALUE}) {
                due.nothing(States::rich, -2, "box", kind, n, 1, 0);
            }
            for (int n : new int[] {97, 98, Integer.MAX_VALUE}) {
                due.nothing(States::rich, -1, "box", kind, n, 1, 0);
            }
            due.nothing(States::rich, 0, "box", kind, 0, 1, 0);
            due.call(States.rich(), 0, "box", kind, 1, 1, 0);
            due.call(States.rich(), 1, "box", kind, 3, 1, 0);
            due.call(States.rich(), 4, "box", kind, 95, 1, 0);
            due.call(States.rich(), 4, "box", kind, 96, 1, 0);
        }
        due.range(States::rich, 0, 3, "box", 0, 0, 5, 1, 0);
    }

    private static void boxTheseFirst() {
        due.says("14: NONE: another kind, n above 96 (these first)");
        for (int kind : new int[] {-1, 4, Integer.MIN_VALUE, Integer.MAX_VALUE}) {
            for (int n : new int[] {-1, 0, 96, 97, Integer.MIN_VALUE}) {
                due.nothing(States::rich, -1, "box", kind, n, 1, 0);
            }
        }
        for (int n : new int[] {97, Integer.MAX_VALUE}) {
            due.nothing(States::rich, -1, "box", 3, n, 1, 0);
        }
        for (int n : new int[] {Integer.MIN_VALUE, -1, 0, 1, 96}) {
            due.call(States.rich(), 4, "box", 3, n, 1, 0);
        }
    }

    /** One unread letter and one entry: 1 if it is rung, 0 if not, -1 if it is left. */
    private static void entry(int kind, int f, int want) {
        NamesOnLetters x = unread(1);
        due.call(x, want < 0 ? 0 : 1, "box", kind, 1, f, 12345);
        due.call(x, want < 0 ? 0 : 1, "of", 0, 6);
        due.call(x, want > 0 ? 1 : 0, "of", 0, 7);
    }

    private static void aboveAndBelowNothing() {
        due.says("14: above 0: RUNG, 0: not, below 0: it is left as it is");
        for (int kind = 0; kind < 3; kind++) {
            entry(kind, 1, 1);
            entry(kind, 2, 1);
            entry(kind, 0, 0);
            entry(kind, -1, -1);
            entry(kind, -2, -1);
        }
        due.says("14: (so are those READ already)");
        for (int kind = 0; kind < 3; kind++) {
            for (int f = -1; f < 2; f++) {
                NamesOnLetters x = unread(2);
                x.ring(0, true);
                x.after(0, 2);
                x.ring(1, false);
                due.call(x, 0, "box", kind, 2, f, 0);
                due.call(x, 1, "of", 0, 7);
                due.call(x, 2, "of", 0, 8);
                due.call(x, 0, "of", 1, 7);
            }
        }
    }

    private static void bytes() {
        due.says("14: of bytes the lowest bits, with their sign");
        int[] entries = {127, 128, 129, 255, 256, 257, 383, 384, -127, -128, -129, -255, -256, -257, 65536,
            Integer.MAX_VALUE, Integer.MIN_VALUE, Integer.MIN_VALUE + 1, Integer.MAX_VALUE - 128};
        int[] want = {1, -1, -1, -1, 0, 1, 1, -1, -1, -1, 1, 1, 0, -1, 0, -1, 0, 1, 1};
        for (int k = 0; k < entries.length; k++) {
            entry(0, entries[k], want[k]);
        }
    }

    private static void shorts() {
        due.says("14: of shorts the lowest bits, with their sign");
        int[] entries = {128, 256, 32767, 32768, 32769, 65535, 65536, 65537, 98303, 98304, -32767, -32768, -32769, -65535,
            -65536, -65537, Integer.MAX_VALUE, Integer.MIN_VALUE, Integer.MIN_VALUE + 1};
        int[] want = {1, 1, 1, -1, -1, -1, 0, 1, 1, -1, -1, -1, 1, 1, 0, -1, -1, 0, 1};
        for (int k = 0; k < entries.length; k++) {
            entry(1, entries[k], want[k]);
        }
    }

    private static void ints() {
        due.says("14: ints (2)");
        int[] entries = {128, 256, 32768, 65536, Integer.MAX_VALUE, Integer.MIN_VALUE, -65536, -256};
        int[] want = {1, 1, 1, 1, 1, -1, -1, -1};
        for (int k = 0; k < entries.length; k++) {
            entry(2, entries[k], want[k]);
        }
    }

    /** What entries f, f + step, .. make of letters 0, 1, ..: + rung, 0 not, . left. */
    private static void entries(int kind, int n, int f, int step, String want) {
        NamesOnLetters x = unread(want.length());
        int read = want.replace(".", "").length();
        due.call(x, read, "box", kind, n, f, step);
        for (int i = 0; i < want.length(); i++) {
            due.call(x, want.charAt(i) == '.' ? 0 : 1, "of", i, 6);
            due.call(x, want.charAt(i) == '+' ? 1 : 0, "of", i, 7);
        }
        due.call(x, read, "count", 3);
    }

    private static void entriesAndLetters() {
        due.says("14: of n entries f, f + step, ..: the k-th entry is for LETTER k");
        entries(2, 5, 2, -1, "++0..");
        entries(2, 4, 2, -1, "++0..");
        entries(2, 3, 2, -1, "++0..");
        entries(2, 2, 2, -1, "++...");
        entries(2, 1, 2, -1, "+....");
        entries(2, 0, 2, -1, ".....");
        entries(2, 96, 2, -1, "++0..");
        entries(2, 96, -2, 1, "..0++");
        entries(2, 5, 0, 0, "00000");
        entries(0, 5, 125, 1, "+++..");
        entries(0, 5, -2, 127, ".+.+.");
        entries(0, 4, 256, 256, "0000");
        entries(1, 4, 32766, 1, "++..");
        entries(1, 4, 65535, 1, ".0++");
        due.says("14: ints, f + step as ints");
        entries(2, 4, Integer.MAX_VALUE - 1, 1, "++..");
        entries(2, 4, Integer.MIN_VALUE, -1, ".+++");
        entries(2, 3, 0, Integer.MIN_VALUE, "0.0");
        StringBuilder all = new StringBuilder();
        for (int i = 0; i < 96; i++) {
            all.append(i < 95 ? '+' : '0');
        }
        entries(2, 96, 95, -1, all.toString());
        all.setCharAt(95, '.');
        entries(2, 95, 95, -1, all.toString());
    }

    private static void missingBox() {
        due.says("14: a missing box (3): all that are not READ are READ, and not RUNG. How many were READ by it");
        for (int n : new int[] {0, 1, 2, 95, 96}) {
            NamesOnLetters x = unread(n);
            due.call(x, n, "box", 3, 0, 1, 1);
            due.call(x, n, "count", 3);
            due.call(x, 0, "count", 4);
            due.call(x, 0, "box", 3, 0, 1, 1);
        }
        NamesOnLetters x = unread(3);
        x.ring(1, true);
        x.after(1, 1);
        due.call(x, 2, "box", 3, 0, 1, 1);
        due.call(x, 1, "of", 1, 7);
        due.call(x, 1, "of", 1, 8);
        due.call(x, 1, "count", 4);
    }

    private static void afterArguments() {
        due.says("15: What comes AFTER a RUNG LETTER becomes v (0 .. 2): what it was. Refused: others");
        due.range(States::rich, 0, 2, "after", 1, 0, 0);
        // letters not RUNG, not READ, none such
        for (int i : new int[] {1, 4, 2, 6, 7, 8, 9, -1, 95, 96, Integer.MIN_VALUE, Integer.MAX_VALUE}) {
            for (int v = 0; v < 3; v++) {
                due.nothing(States::rich, -1, "after", i, v);
            }
        }
        due.nothing(States::rich, -1, "after", 3, 3);
        due.nothing(States::rich, -1, "after", 3, -1);
    }

    private static void afterRungOnes() {
        due.says("15: what it was; 0 not known (at first)");
        NamesOnLetters x = unread(2);
        due.call(x, -1, "after", 0, 1);
        x.ring(0, true);
        x.box(2, 2, 1, 0);
        for (int i = 0; i < 2; i++) {
            int was = 0;
            for (int v : new int[] {0, 1, 1, 2, 2, 0, 2, 1, 0}) {
                due.call(x, was, "after", i, v);
                due.call(x, v, "of", i, 8);
                was = v;
            }
        }
    }

    private static void seeds() {
        due.says("16: R becomes v: what it was");
        NamesOnLetters x = unread(1);
        int was = 1;
        for (int v : new int[] {0, -1, 1, Integer.MIN_VALUE, Integer.MAX_VALUE, 65535, 65536, -65536, 1, 1}) {
            due.call(x, was, "seed", v);
            was = v;
        }
        // it is the R of the next draw
        NamesOnLetters y = unread(1);
        y.seed(0);
        y.read(1);
        due.call(y, 12345, "seed", 0);
    }
}
