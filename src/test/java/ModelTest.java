import java.util.ArrayList;
import java.util.Arrays;
import java.util.List;

/** Runs of calls, drawn by a number, on the class and on the model of the document: all must answer alike. */
public final class ModelTest {
    private static final int RUNS = 300;
    private static final int[] EXTREMES = {
        Integer.MIN_VALUE, Integer.MIN_VALUE + 1, -1000001, -101, -100, -97, -3, -2, -1, 0, 1, 2, 3, 4, 5, 6, 7, 9,
        10, 12, 16, 17, 24, 25, 39, 40, 41, 60, 61, 95, 96, 97, 99, 100, 101, 399, 400, 999, 1000, 1009, 1010,
        1000000, 1000001, 24000000, 24000001, Integer.MAX_VALUE - 1, Integer.MAX_VALUE};

    private long state;
    private NamesOnLetters x;
    private Model model;
    private final List<String> told = new ArrayList<>();

    public static void main(String[] args) {
        for (int run = 1; run <= RUNS; run++) {
            ModelTest test = new ModelTest();
            test.state = run * 7919L;
            if (!test.run(run)) {
                System.exit(1);
            }
        }
        System.out.println(RUNS + " runs answer as the model does");
    }

    private int below(int n) {
        state = state * 6364136223846793005L + 1442695040888963407L;
        return (int) ((state >>> 33) % n);
    }

    private boolean run(int run) {
        x = new NamesOnLetters();
        model = new Model();
        boolean good = tellStart(run);
        while (good && told.size() < 512) {
            good = below(12) == 0 ? tellText(below(3) > 0) : oneCall(run);
        }
        if (!good) {
            System.out.println("run " + run + ":");
            for (String call : told) {
                System.out.println("  " + call);
            }
        }
        return good;
    }

    /** Names, houses and letters first, so that most of the other calls have something to tell. */
    private boolean tellStart(int run) {
        boolean good = true;
        for (int k = below(13); k >= 0 && good; k--) {
            good = same("name", below(2), below(2), below(1010));
        }
        for (int k = run % 25; k > 0 && good; k--) {
            good = same("house", below(4), below(4), below(3));
        }
        for (int k = 0; k < 12 && good; k++) {
            good = tellText(k < 6);
        }
        int dealt = below(4);
        for (int k = 0; k < run % 25 && good; k++) {
            good = dealt > 0 || below(2) == 0 ? same("deal", k, below(100), below(100)) : lettersTo(k);
        }
        return good;
    }

    private boolean lettersTo(int house) {
        boolean good = true;
        for (int k = below(6); k > 0 && good; k--) {
            good = same("letter", house, below(12), below(100), below(40), below(400));
        }
        return good;
    }

    private boolean oneCall(int run) {
        String[] parts = Calls.ALL[below(Calls.ALL.length)].split(" ");
        int[] a = new int[parts.length - 1];
        for (int k = 0; k < a.length; k++) {
            a[k] = argument(greatest(parts[k + 1]));
        }
        boolean rare = parts[0].equals("box") && a[0] > 1 || parts[0].equals("read") && a[0] > 20
                || parts[0].equals("again") || parts[0].equals("seed");
        if (rare && below(6) > 0) {
            return true;
        }
        if (parts[0].equals("least") && below(4) > 0) {
            return true;
        }
        return same(parts[0], a);
    }

    private int greatest(String of) {
        switch (of) {
            case "N": return Math.max(0, model.names.size() - 1);
            case "H": return Math.max(0, model.houses.size() - 1);
            case "L": return Math.max(0, model.letters.size() - 1);
            case "T": return 2;
            default: return Integer.parseInt(of);
        }
    }

    private int argument(int most) {
        int by = below(40);
        if (by == 0) {
            return EXTREMES[below(EXTREMES.length)];
        }
        if (by == 1) {
            return most + 1;
        }
        if (by == 2) {
            return -1;
        }
        return by < 5 ? most : by < 7 ? 0 : below(most + 1);
    }

    private boolean tellText(boolean isLaw) {
        StringBuilder text = new StringBuilder(below(3) > 0 ? "" : "50+");
        text.append(expression(isLaw, below(4)));
        for (int k = below(6) - 3; k > 0 && text.length() > 0; k--) {
            String signs = "wesdpxcatonkmr0123456789|&<>=+-*!()~ z" + (char) 200;
            char c = signs.charAt(below(signs.length()));
            int at = below(text.length());
            switch (below(3)) {
                case 0: text.setCharAt(at, c); break;
                case 1: text.insert(at, c); break;
                default: text.deleteCharAt(at);
            }
        }
        boolean good = true;
        for (int k = 0; k < text.length() && k < 57 && good; k += 4) {
            int v = 0;
            for (int j = k; j < k + 4; j++) {
                v = v << 8 | (j < text.length() ? text.charAt(j) : 0);
            }
            good = same("sign", v);
        }
        int most = Math.min(text.length(), model.text.length());
        return good && same("end", most) && same(isLaw ? "law" : "filter", below(20) == 0 ? 6 : below(3));
    }

    private String expression(boolean isLaw, int size) {
        if (size == 0) {
            String things = isLaw ? "wesdpxcatonkm" : "wesdpxcator";
            return below(3) == 0 ? "" + below(below(2) == 0 ? 10 : 1000) : "" + things.charAt(below(things.length()));
        }
        switch (below(8)) {
            case 0: return "!" + expression(isLaw, size - 1);
            case 1: return "-" + expression(isLaw, size - 1);
            case 2: return "(" + expression(isLaw, size - 1) + ")";
            case 3: return "(" + expression(isLaw, size - 1) + ")" + "*" + expression(isLaw, 0);
            default: return expression(isLaw, size - 1) + "|&<>=+-*".charAt(below(8))
                    + expression(isLaw, size - 1);
        }
    }

    private boolean same(String name, int... a) {
        long due = model.call(name, a);
        long got = Calls.call(x, name, a);
        told.add(name + Arrays.toString(a) + " = " + got + (got == due ? "" : ", due is " + due));
        return got == due && sameRow() && (told.size() % 16 > 0 || sameLetters());
    }

    private boolean sameRow() {
        for (int what = 0; what < 10; what++) {
            if (x.count(what) != model.call("count", what)) {
                told.add("count(" + what + ") = " + x.count(what) + ", due is " + model.call("count", what));
                return false;
            }
        }
        for (int i = 0; i < model.row.size(); i++) {
            if (x.row(i) != model.row.get(i)) {
                told.add("row(" + i + ") = " + x.row(i) + ", due is " + model.row.get(i));
                return false;
            }
        }
        return true;
    }

    private boolean sameLetters() {
        for (int i = 0; i < model.letters.size(); i++) {
            for (int what = 0; what < 9; what++) {
                if (x.of(i, what) != model.letters.get(i)[what]) {
                    told.add("of(" + i + ", " + what + ") = " + x.of(i, what));
                    return false;
                }
            }
        }
        return true;
    }
}
