import java.util.NoSuchElementException;

/** Calls of the class by name, so that a run of them can be told as data. */
final class Calls {
    /**
     * Each call's name, then the greatest ordinary value of each of its arguments,
     * or N, H, L, T where it is the number of a name, a house, a letter, a text.
     */
    static final String[] ALL = {
        "name 1 1 1009", "house 3 3 5", "letter H N 99 39 399", "deal H 99 99", "of L 8", "sign 0", "end 60",
        "law 5", "filter 5", "value T L", "read 96", "ring L 1", "box 3 96 255 5", "after L 2", "seed 9999",
        "share T", "aside T", "odds T 2", "weighs", "names N", "drawn", "goes 3", "says", "child 9", "table 4 4",
        "kind 3 100 100", "parts 3 99", "likely H 3", "fit", "named 15 1000000", "sure 15 24000000", "most",
        "both 99", "explains 3", "join 2", "bounds 1", "years 99", "mornings 99 99 999", "asked L L 2", "pairs",
        "ask", "nearly 40", "shows 16 100 100 16", "least 100 100 1000000 1000000", "keep 2", "again 2", "count 9",
        "row 9"};

    private Calls() {
    }

    static long call(NamesOnLetters x, String name, int... a) {
        try {
            return answer(x, name, a);
        } catch (NoSuchElementException e) {
            return Model.THROWS;
        }
    }

    /** What a call answers that is refused. */
    static long refusal(String name) {
        switch (name) {
            case "end":
            case "ring":
            case "kind":
            case "keep":
            case "again": return 0;
            case "of":
            case "value":
            case "row": return Model.THROWS;
            default: return NamesOnLetters.NONE;
        }
    }

    private static long answer(NamesOnLetters x, String name, int[] a) {
        switch (name) {
            case "name": return x.name(a[0], a[1], a[2]);
            case "house": return x.house(a[0], a[1], a[2]);
            case "letter": return x.letter(a[0], a[1], a[2], a[3], a[4]);
            case "deal": return x.deal(a[0], a[1], a[2]);
            case "of": return x.of(a[0], a[1]);
            case "sign": return x.sign(a[0]);
            case "end": return x.end(a[0]) ? 1 : 0;
            case "law": return x.law(a[0]);
            case "filter": return x.filter(a[0]);
            case "value": return x.value(a[0], a[1]);
            case "read": return x.read(a[0]);
            case "ring": return x.ring(a[0], a[1] != 0) ? 1 : 0;
            case "box": return x.box(a[0], a[1], a[2], a[3]);
            case "after": return x.after(a[0], a[1]);
            case "seed": return x.seed(a[0]);
            case "share": return x.share(a[0]);
            case "aside": return x.aside(a[0]);
            case "odds": return x.odds(a[0], a[1]);
            case "weighs": return x.weighs();
            case "names": return x.names(a[0]);
            case "drawn": return x.drawn();
            case "goes": return x.goes(a[0]);
            case "says": return x.says();
            case "child": return x.child(a[0]);
            default: return answerMore(x, name, a);
        }
    }

    private static long answerMore(NamesOnLetters x, String name, int[] a) {
        switch (name) {
            case "table": return x.table(a[0], a[1]);
            case "kind": return x.kind(a[0], a[1], a[2]) ? 1 : 0;
            case "parts": return x.parts(a[0], a[1]);
            case "likely": return x.likely(a[0], a[1]);
            case "fit": return x.fit();
            case "named": return x.named(a[0], a[1]);
            case "sure": return x.sure(a[0], a[1]);
            case "most": return x.most();
            case "both": return x.both(a[0]);
            case "explains": return x.explains(a[0]);
            case "join": return x.join(a[0]);
            case "bounds": return x.bounds(a[0]);
            case "years": return x.years(a[0]);
            case "mornings": return x.mornings(a[0], a[1], a[2]);
            case "asked": return x.asked(a[0], a[1], a[2]);
            case "pairs": return x.pairs();
            case "ask": return x.ask();
            case "nearly": return x.nearly(a[0]);
            case "shows": return x.shows(a[0], a[1], a[2], a[3]);
            case "least": return x.least(a[0], a[1], a[2], a[3]);
            case "keep": return x.keep(a[0]) ? 1 : 0;
            case "again": return x.again(a[0]) ? 1 : 0;
            case "count": return x.count(a[0]);
            case "row": return x.row(a[0]);
            default: throw new IllegalArgumentException(name);
        }
    }
}
