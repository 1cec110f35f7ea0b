import java.util.ArrayList;
import java.util.Arrays;
import java.util.List;

/** What later calls show of an object. Each view uses its object up, and keeps it under 512 calls. */
final class Shown {
    static final int VIEWS = 7;
    /** Calls that ask what the read letters tell, and change nothing but the ROW. */
    static final String[] ASKINGS = {"share -1", "share 0", "aside -1", "aside 0", "odds -1 0", "odds 0 1", "odds 0 2",
        "weighs", "names 0", "names 1", "drawn", "goes 0", "goes 1", "goes 2", "goes 3", "says", "child 1", "table 0 0",
        "table 1 0", "table 0 1", "fit", "likely 0 2", "likely 3 1", "named 15 0", "named 1 200000", "sure 1 0", "most",
        "both 50", "both 40", "explains 0", "explains 1", "explains 2", "explains 3", "join 0", "join 1", "join 2",
        "bounds 0", "bounds 1", "years 0", "years 45", "mornings 5 7 9", "count 3", "count 4"};

    private final NamesOnLetters x;
    private final List<String> list = new ArrayList<>();

    private Shown(NamesOnLetters x) {
        this.x = x;
    }

    static List<String> of(int view, NamesOnLetters x) {
        Shown shown = new Shown(x);
        switch (view) {
            case 0: shown.countsAndRow(); break;
            case 1: shown.letters(); break;
            case 2: shown.laws(); break;
            case 3: shown.sharesAndAskings(); break;
            case 4: shown.kinds(); break;
            case 5: shown.reading(); break;
            default: shown.kept();
        }
        return shown.list;
    }

    static String name(String call) {
        return call.split(" ")[0];
    }

    static int[] arguments(String call) {
        String[] parts = call.split(" ");
        int[] a = new int[parts.length - 1];
        for (int k = 0; k < a.length; k++) {
            a[k] = Integer.parseInt(parts[k + 1]);
        }
        return a;
    }

    static long called(NamesOnLetters x, String call) {
        return Calls.call(x, name(call), arguments(call));
    }

    static long answer(Model model, String call) {
        return model.call(name(call), arguments(call));
    }

    /** What is answered, and the whole ROW then. */
    static String asked(NamesOnLetters x, String call) {
        StringBuilder all = new StringBuilder().append(called(x, call));
        int numbers = x.count(8);
        for (int i = 0; i < numbers; i++) {
            all.append(' ').append(x.row(i));
        }
        return all.toString();
    }

    private void show(String name, int... a) {
        list.add(name + Arrays.toString(a) + " = " + Calls.call(x, name, a));
    }

    private void showRow() {
        for (int i = 0; i < 11; i++) {
            show("row", i);
        }
    }

    private void countsAndRow() {
        for (int what = 0; what < 10; what++) {
            show("count", what);
        }
        showRow();
    }

    /** All that is told of the last letters, and R. */
    private void letters() {
        int n = x.count(2);
        for (int i = Math.max(0, n - 12); i < n; i++) {
            for (int what = 0; what < 9; what++) {
                show("of", i, what);
            }
        }
        show("seed", 5);
    }

    /** The laws, then THE TEXT as a law, then names and houses as a law of its own sees them. */
    private void laws() {
        int n = Math.min(x.count(2), 12);
        values(n, 6);
        show("law", 5);
        values(n, 6);
        x.end(0);
        list.add("names " + Due.law(x, 0, "p*2+x+10*c+1*a*100"));
        values(n, 1);
        list.add("houses " + Due.law(x, 0, "t*10+o"));
        values(n, 1);
    }

    private void values(int letters, int laws) {
        for (int law = 0; law < laws; law++) {
            for (int i = 0; i < letters; i++) {
                show("value", law, i);
            }
        }
    }

    private void sharesAndAskings() {
        for (int filter = -1; filter < 6; filter++) {
            show("share", filter);
            show("row", 0);
            show("row", 1);
        }
        show("filter", 5);
        show("share", 5);
        show("row", 0);
        show("pairs");
        showRow();
        show("ask");
        showRow();
        for (int name = 0; name < 12; name++) {
            show("names", name);
        }
    }

    private void kinds() {
        for (int house = 0; house < 24; house++) {
            for (int kind = 0; kind < 4; kind++) {
                show("likely", house, kind);
            }
        }
        show("fit");
        showRow();
        show("bounds", 0);
        show("bounds", 1);
        show("mornings", 7, 11, 13);
        showRow();
    }

    /** What the houses' laws make of the letters that are left. */
    private void reading() {
        int n = Math.min(x.count(2), 12);
        show("read", 2);
        show("read", 96);
        for (int i = 0; i < n; i++) {
            show("of", i, 7);
        }
        show("seed", 5);
        show("name", 1, 1, 505);
        show("house", 1, 1, 1);
        show("letter", 0, 0, 5, 5, 5);
        show("deal", x.count(1) - 1, 5, 6);
    }

    private void kept() {
        for (int i = 2; i >= 0; i--) {
            show("again", i);
            int n = x.count(2);
            show("count", 2);
            for (int k = Math.max(0, n - 12); k < n; k++) {
                show("of", k, 6);
                show("of", k, 7);
                show("of", k, 8);
            }
            show("seed", 5);
        }
    }
}
