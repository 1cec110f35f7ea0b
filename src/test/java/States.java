/** Objects that stand as tests want them, each made by under 200 calls. */
final class States {
    private States() {
    }

    /** Most of what can be told, with a ROW of six, THE TEXT, askings, and all three numbers kept. */
    static NamesOnLetters rich() {
        NamesOnLetters x = new NamesOnLetters();
        namesAndHouses(x);
        Due.law(x, 0, "w+k*10-n");
        Due.law(x, 2, "50");
        Due.filter(x, 1, "w>30");
        Due.filter(x, 2, "r");
        int[][] letters = {{0, 0, 20, 5, 30}, {0, 1, 40, 0, 10}, {0, 2, 60, 39, 20}, {1, 3, 80, 2, 50}, {1, 4, 10, 6, 5},
            {2, 0, 30, 9, 300}, {2, 1, 50, 13, 399}, {2, 3, 70, 17, 0}};
        for (int[] a : letters) {
            x.letter(a[0], a[1], a[2], a[3], a[4]);
        }
        x.ring(0, true);
        x.ring(1, false);
        x.keep(0);
        x.ring(3, true);
        x.after(3, 2);
        x.keep(1);
        x.letter(1, 2, 90, 20, 200);
        x.ring(4, false);
        x.ring(5, true);
        x.after(5, 1);
        x.seed(4711);
        x.keep(2);
        x.kind(1, 40, 20);
        x.kind(3, 5, 6);
        x.parts(0, 3);
        x.parts(2, 7);
        x.asked(0, 1, 1);
        x.asked(2, 1, 0);
        x.asked(3, 5, 2);
        x.seed(815);
        x.aside(-1);
        Due.tell(x, "w*7-d");
        return x;
    }

    private static void namesAndHouses(NamesOnLetters x) {
        int[][] names = {{0, 0, 212}, {1, 1, 585}, {0, 1, 737}, {1, 0, 90}, {0, 0, 1009}};
        for (int[] a : names) {
            x.name(a[0], a[1], a[2]);
        }
        int[][] houses = {{0, 1, 0}, {2, 3, 1}, {3, 0, 2}, {1, 2, 0}};
        for (int[] a : houses) {
            x.house(a[0], a[1], a[2]);
        }
    }

    /** Names and houses as in rich(), but no letters. */
    static NamesOnLetters unwritten() {
        NamesOnLetters x = new NamesOnLetters();
        namesAndHouses(x);
        Due.law(x, 0, "50");
        x.pairs();
        Due.tell(x, "d");
        return x;
    }

    /** As many houses as told, four letters to each, none of them read. */
    static NamesOnLetters dealt(int houses) {
        NamesOnLetters x = new NamesOnLetters();
        Due.names(x, "0011");
        for (int h = 0; h < houses; h++) {
            x.house(h % 4, h / 4 % 4, 0);
            x.deal(h, 30, 60);
        }
        return x;
    }
}
