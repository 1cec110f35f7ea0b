import java.util.NoSuchElementException;

/** Letters that are alike in all but a name, the houses that read them, and what their rings tell. */
public final class NamesOnLetters {
    public static final int NONE = -1;

    private static final int CANNOT_BE_TOLD = -2;
    private static final int NO_SUCH_TEXT = -100;
    private static final int MOST_NAMES = 12;
    private static final int MOST_HOUSES = 24;
    private static final int MOST_LETTERS = 96;
    private static final int MOST_TO_A_HOUSE = 4;
    private static final int MOST_TEXTS = 6;
    private static final int MOST_SIGNS = 60;
    private static final int MOST_KEPT = 3;
    private static final int NOT_TAKEN_ON = 2;
    private static final int MISSING_BOX = 3;
    private static final int MILLION = 1000000;

    private final Told told;
    private final Row row;
    private final Shares shares;
    private final Kinds kinds;
    private final Explained explained;
    private final Machine machine;
    private final Chances chances;
    private final int[] text;
    private int signs;

    public NamesOnLetters() {
        told = new Told();
        row = new Row();
        shares = new Shares(told, row);
        kinds = new Kinds(told, row);
        explained = new Explained(told, row);
        machine = new Machine(told, row);
        chances = new Chances(row);
        text = new int[MOST_SIGNS];
    }

    // ---- names, houses, letters

    public int name(int people, int sex, int ct) {
        boolean fits = within(people, 0, 1) && within(sex, 0, 1) && within(ct, 0, 1009);
        return fits && told.nameCount < MOST_NAMES ? told.addName(people, sex, ct) : NONE;
    }

    public int house(int trade, int town, int law) {
        boolean fits = within(trade, 0, 3) && within(town, 0, 3) && within(law, 0, MOST_TEXTS - 1);
        return fits && told.houseCount < MOST_HOUSES ? told.addHouse(trade, town, law) : NONE;
    }

    public int letter(int house, int name, int worth, int es, int day) {
        boolean fits = told.isHouse(house) && told.isName(name)
                && within(worth, 0, 99) && within(es, 0, 39) && within(day, 0, 399);
        boolean room = told.letterCount < MOST_LETTERS && told.lettersTo(house) < MOST_TO_A_HOUSE;
        return fits && room ? told.addLetter(house, name, worth, es, day) : NONE;
    }

    public int deal(int house, int low, int high) {
        boolean fits = told.isHouse(house) && within(low, 0, 99) && within(high, 0, 99);
        boolean room = told.letterCount + MOST_TO_A_HOUSE <= MOST_LETTERS && told.lettersTo(house) == 0;
        boolean enough = told.namesOf(0) >= 2 && told.namesOf(1) >= 2;
        return fits && room && enough ? told.dealTo(house, low, high) : NONE;
    }

    public int of(int i, int what) throws NoSuchElementException {
        if (!told.isLetter(i) || !within(what, 0, 8)) {
            throw new NoSuchElementException("no such letter, or nothing of that number is told of it");
        }
        return told.letters[i].told(what);
    }

    public int sign(int v) {
        if (signs + 4 > MOST_SIGNS) {
            return NONE;
        }
        for (int shift = 24; shift >= 0; shift -= 8) {
            text[signs] = v >>> shift & 255;
            signs++;
        }
        return signs;
    }

    public boolean end(int n) {
        if (!within(n, 0, signs)) {
            return false;
        }
        signs = n;
        return true;
    }

    public int law(int i) {
        return takeText(told.laws, i, true);
    }

    public int filter(int i) {
        return takeText(told.filters, i, false);
    }

    public int value(int law, int i) throws NoSuchElementException {
        if (!told.isLetter(i) || !told.isLaw(law)) {
            throw new NoSuchElementException("no such letter, or that law was not told");
        }
        return told.lawFor(law, told.letters[i]);
    }

    // ---- read

    public int read(int n) {
        return within(n, 0, MOST_LETTERS) ? told.readNext(n) : NONE;
    }

    public boolean ring(int i, boolean is) {
        if (!told.isLetter(i) || told.letters[i].read) {
            return false;
        }
        told.letters[i].becomeRead(is);
        return true;
    }

    public int box(int kind, int n, int f, int step) {
        if (!within(kind, 0, MISSING_BOX) || n > MOST_LETTERS) {
            return NONE;
        }
        if (kind == MISSING_BOX) {
            return told.readAllWithoutRings();
        }
        return n < 0 ? CANNOT_BE_TOLD : told.readAsBoxed(kind, n, f, step);
    }

    public int after(int i, int v) {
        if (!told.isLetter(i) || !told.letters[i].rung || !within(v, 0, 2)) {
            return NONE;
        }
        int was = told.letters[i].after;
        told.letters[i].after = v;
        return was;
    }

    public int seed(int v) {
        int was = told.r;
        told.r = v;
        return was;
    }

    // ---- shares

    public int share(int filter) {
        return shares.tellShare(filter);
    }

    public int aside(int filter) {
        return shares.tellAside(filter);
    }

    public int odds(int filter, int what) {
        return shares.tellOdds(filter, what);
    }

    public int weighs() {
        return shares.tellHeaviest();
    }

    // ---- names

    public int names(int name) {
        return shares.tellName(name);
    }

    public int drawn() {
        return shares.tellDrawn();
    }

    public int goes(int what) {
        return shares.tellGoing(what);
    }

    public int says() {
        return shares.tellSaid();
    }

    public int child(int off) {
        return shares.tellChild(off);
    }

    // ---- houses of kinds

    public int table(int a, int b) {
        return kinds.housesWith(a, b);
    }

    public boolean kind(int kind, int zero, int one) {
        return kinds.become(kind, zero, one);
    }

    public int parts(int kind, int v) {
        return kinds.becomePart(kind, v);
    }

    public int likely(int house, int kind) {
        return kinds.howLikely(house, kind);
    }

    public int fit() {
        return kinds.tellFit();
    }

    public int named(int bits, int line) {
        return kinds.tellNamed(bits, line);
    }

    public int sure(int bits, int wrong) {
        return kinds.leastLine(bits, wrong);
    }

    public int most() {
        return kinds.tellMost();
    }

    // ---- what else

    public int both(int v) {
        return explained.tellBoth(v);
    }

    public int explains(int what) {
        return explained.tellExplained(what);
    }

    public int join(int what) {
        return explained.tellJoined(what);
    }

    public int bounds(int people) {
        return explained.tellBounds(people);
    }

    public int years(int v) {
        return explained.tellYears(v);
    }

    public int mornings(int read, int ring, int lost) {
        return explained.tellMornings(read, ring, lost);
    }

    // ---- a machine

    public int asked(int a, int b, int took) {
        return machine.noteAsking(a, b, took);
    }

    public int pairs() {
        return machine.tellPairs();
    }

    public int ask() {
        return machine.tellNext();
    }

    public int nearly(int wrong) {
        return machine.lawsWithin(wrong);
    }

    // ---- how many

    public int shows(int n, int zero, int one, int off) {
        return chances.chanceOf(n, zero, one, off);
    }

    public int least(int zero, int one, int power, int wrong) {
        return chances.tellLeast(zero, one, power, wrong);
    }

    // ---- kept

    public boolean keep(int i) {
        if (!within(i, 0, MOST_KEPT - 1)) {
            return false;
        }
        told.keepUnder(i);
        return true;
    }

    public boolean again(int i) {
        if (!within(i, 0, MOST_KEPT - 1) || !told.bringBack(i)) {
            return false;
        }
        machine.askings = 0;
        return true;
    }

    public int count(int what) {
        switch (what) {
            case 0: return told.nameCount;
            case 1: return told.houseCount;
            case 2: return told.letterCount;
            case 3: return told.readCount();
            case 4: return told.rungCount();
            case 5: return toldBits(told.laws);
            case 6: return toldBits(told.filters);
            case 7: return machine.askings;
            case 8: return row.size;
            case 9: return signs;
            default: return NONE;
        }
    }

    public long row(int i) throws NoSuchElementException {
        if (i < 0 || i >= row.size) {
            throw new NoSuchElementException("the row has no such number");
        }
        return row.numbers[i];
    }

    private int takeText(Expression[] list, int i, boolean isLaw) {
        int n = signs;
        signs = 0;
        if (!within(i, 0, MOST_TEXTS - 1)) {
            return NO_SUCH_TEXT;
        }
        int wrong = Expression.firstWrong(text, n, isLaw);
        if (wrong != NONE) {
            return -1 - wrong;
        }
        list[i].become(text, n);
        return 0;
    }

    private static int toldBits(Expression[] list) {
        int bits = 0;
        for (int i = 0; i < MOST_TEXTS; i++) {
            if (list[i].isTold()) {
                bits |= 1 << i;
            }
        }
        return bits;
    }

    private static boolean within(int v, int low, int high) {
        return v >= low && v <= high;
    }

    private static long greatestDivisor(long a, long b) {
        long x = a < 0 ? -a : a;
        long y = b < 0 ? -b : b;
        // a hundred steps are more than two longs can take
        for (int step = 0; step < 100 && y != 0; step++) {
            long left = x % y;
            x = y;
            y = left;
        }
        return x;
    }

    private static long leastMultiple(long a, long b) {
        long divisor = greatestDivisor(a, b);
        return divisor == 0 ? 0 : a / divisor * b;
    }

    private static long choices(int n, int k) {
        if (k < 0 || k > n) {
            return 0;
        }
        long ways = 1;
        for (int i = 1; i <= k; i++) {
            ways = ways * (n - k + i) / i;
        }
        return ways;
    }

    /** The numbers that a call told last. */
    private static final class Row {
        private static final int MOST = 10;

        private final long[] numbers = new long[MOST];
        private int size;

        private void clear() {
            size = 0;
        }

        private void add(long v) {
            if (size < MOST) {
                numbers[size] = v;
                size++;
            }
        }

        private void addFraction(long upper, long lower) {
            long divisor = greatestDivisor(upper, lower);
            if (divisor != 0) {
                add(upper / divisor);
                add(lower / divisor);
            }
        }
    }

    /** One letter, with what became of it. */
    private static final class Letter {
        private int house;
        private int name;
        private int worth;
        private int errors;
        private int street;
        private int day;
        private boolean read;
        private boolean rung;
        private int after;

        private int told(int what) {
            switch (what) {
                case 0: return house;
                case 1: return name;
                case 2: return worth;
                case 3: return errors;
                case 4: return street;
                case 5: return day;
                case 6: return read ? 1 : 0;
                case 7: return rung ? 1 : 0;
                default: return after;
            }
        }

        private void becomeRead(boolean rings) {
            read = true;
            rung = rings;
        }

        private int state() {
            return (read ? 1 : 0) + (rung ? 2 : 0) + 4 * after;
        }

        private void becomeState(int state) {
            read = (state & 1) != 0;
            rung = (state & 2) != 0;
            after = state >> 2;
        }
    }

    /** A LAW or a FILTER, held with its operators behind what they join, so that no reading of it nests. */
    private static final class Expression {
        private static final int MOST = 40;
        private static final int DEEPEST = 5;
        private static final int MOST_DIGITS = 3;
        private static final String THINGS = "wesdpxcatonkmr";
        private static final int THING_COUNT = 14;
        private static final int ALWAYS_THINGS = 10;
        private static final int RUNG_THING = 13;
        // in the code numbers stand as they are, things above all numbers, operators below 0
        private static final int FIRST_THING = 1000;
        private static final int NEGATE = '~';

        private final int[] code = new int[MOST];
        private int length;
        private final int[] stack = new int[MOST];
        private int top;

        private boolean isTold() {
            return length > 0;
        }

        /** The place of the first sign that can't stand, or NONE. */
        private static int firstWrong(int[] text, int n, boolean isLaw) {
            boolean wanting = true;
            int digits = 0;
            int depth = 0;
            int compared = 0; // a bit for each depth: one comparison there keeps out the next
            int last = n < MOST ? n : MOST;
            for (int p = 0; p < last; p++) {
                int c = text[p];
                if (wanting) {
                    if (c == '(' && depth < DEEPEST) {
                        depth++;
                        compared &= ~(1 << depth);
                    } else if (isDigit(c) || isThing(c, isLaw)) {
                        digits = isDigit(c) ? 1 : MOST_DIGITS;
                        wanting = false;
                    } else if (c != '!' && c != '-') {
                        return p;
                    }
                } else if (isDigit(c) && digits < MOST_DIGITS) {
                    digits++;
                } else if (c == ')' && depth > 0) {
                    depth--;
                    digits = MOST_DIGITS;
                } else if (strength(c) == 3 && (compared >> depth & 1) == 0) {
                    compared |= 1 << depth;
                    wanting = true;
                } else if (isJoining(c) && strength(c) != 3) {
                    compared = strength(c) < 3 ? compared & ~(1 << depth) : compared;
                    wanting = true;
                } else {
                    return p;
                }
            }
            if (n > MOST) {
                return MOST;
            }
            return wanting || depth > 0 ? n : NONE;
        }

        private static boolean isDigit(int c) {
            return c >= '0' && c <= '9';
        }

        private static boolean isThing(int c, boolean isLaw) {
            int at = THINGS.indexOf((char) c);
            if (at < ALWAYS_THINGS) {
                return at >= 0;
            }
            return isLaw == (at != RUNG_THING);
        }

        private static boolean isJoining(int c) {
            return within(strength(c), 1, 5);
        }

        private static int strength(int operator) {
            switch (operator) {
                case '|': return 1;
                case '&': return 2;
                case '<':
                case '>':
                case '=': return 3;
                case '+':
                case '-': return 4;
                case '*': return 5;
                case '!':
                case NEGATE: return 6;
                default: return 0;
            }
        }

        /** Takes a text in which no sign is wrong. */
        private void become(int[] text, int n) {
            length = 0;
            top = 0;
            boolean wanting = true;
            for (int p = 0; p < n; p++) {
                int c = text[p];
                if (isDigit(c)) {
                    putDigit(c - '0', p > 0 && isDigit(text[p - 1]));
                    wanting = false;
                } else if (c == '(' || c == '!') {
                    push(c);
                } else if (c == '-' && wanting) {
                    push(NEGATE);
                } else if (c == ')') {
                    putStronger(1);
                    pop();
                } else if (isJoining(c)) {
                    putStronger(strength(c));
                    push(c);
                    wanting = true;
                } else {
                    put(FIRST_THING + THINGS.indexOf((char) c));
                    wanting = false;
                }
            }
            putStronger(1);
        }

        private void putDigit(int digit, boolean goesOn) {
            if (goesOn && length > 0) {
                code[length - 1] = code[length - 1] * 10 + digit;
            } else {
                put(digit);
            }
        }

        private void putStronger(int least) {
            for (int left = top; left > 0 && strength(stack[left - 1]) >= least; left--) {
                put(-pop());
            }
        }

        private void put(int c) {
            if (length < MOST) {
                code[length] = c;
                length++;
            }
        }

        private void push(int v) {
            if (top < MOST) {
                stack[top] = v;
                top++;
            }
        }

        private int pop() {
            if (top == 0) {
                return 0;
            }
            top--;
            return stack[top];
        }

        private int result(int[] things) {
            top = 0;
            for (int k = 0; k < length; k++) {
                int c = code[k];
                if (c < 0) {
                    operate(-c);
                } else if (c < FIRST_THING) {
                    push(c);
                } else if (c - FIRST_THING < things.length) {
                    push(things[c - FIRST_THING]);
                }
            }
            return pop();
        }

        private void operate(int operator) {
            int right = pop();
            if (operator == '!') {
                push(right == 0 ? 1 : 0);
            } else if (operator == NEGATE) {
                push(-right);
            } else {
                push(joined(pop(), operator, right));
            }
        }

        private static int joined(int left, int operator, int right) {
            switch (operator) {
                case '|': return left != 0 || right != 0 ? 1 : 0;
                case '&': return left != 0 && right != 0 ? 1 : 0;
                case '<': return left < right ? 1 : 0;
                case '>': return left > right ? 1 : 0;
                case '=': return left == right ? 1 : 0;
                case '+': return left + right;
                case '-': return left - right;
                default: return left * right;
            }
        }
    }

    /** All that was told: names, houses, letters, laws, filters, and what is kept. */
    private static final class Told {
        // which places of four are of PEOPLE 1, as bits, by a draw of six
        private static final int[] TWO_OF_FOUR = {3, 5, 9, 6, 10, 12};

        private final int[] people = new int[MOST_NAMES];
        private final int[] sex = new int[MOST_NAMES];
        private final int[] level = new int[MOST_NAMES];
        private final int[] taken = new int[MOST_NAMES];
        private int nameCount;
        private final int[] trade = new int[MOST_HOUSES];
        private final int[] town = new int[MOST_HOUSES];
        private final int[] lawOf = new int[MOST_HOUSES];
        private int houseCount;
        private final Letter[] letters = new Letter[MOST_LETTERS];
        private int letterCount;
        private final Expression[] laws = new Expression[MOST_TEXTS];
        private final Expression[] filters = new Expression[MOST_TEXTS];
        private final int[] things = new int[Expression.THING_COUNT];
        private int r = 1;
        private final int[] keptCount = {NONE, NONE, NONE};
        private final int[] keptR = new int[MOST_KEPT];
        private final int[][] keptState = new int[MOST_KEPT][MOST_LETTERS];

        private Told() {
            for (int i = 0; i < MOST_LETTERS; i++) {
                letters[i] = new Letter();
            }
            for (int i = 0; i < MOST_TEXTS; i++) {
                laws[i] = new Expression();
                filters[i] = new Expression();
            }
        }

        private boolean isName(int i) {
            return i >= 0 && i < nameCount;
        }

        private boolean isHouse(int i) {
            return i >= 0 && i < houseCount;
        }

        private boolean isLetter(int i) {
            return i >= 0 && i < letterCount;
        }

        private boolean isLaw(int i) {
            return within(i, 0, MOST_TEXTS - 1) && laws[i].isTold();
        }

        private boolean isFilter(int i) {
            return i == NONE || within(i, 0, MOST_TEXTS - 1) && filters[i].isTold();
        }

        private int addName(int ofPeople, int ofSex, int ct) {
            people[nameCount] = ofPeople;
            sex[nameCount] = ofSex;
            level[nameCount] = ct / 101;
            taken[nameCount] = ct % 101;
            nameCount++;
            return nameCount - 1;
        }

        private int addHouse(int ofTrade, int ofTown, int law) {
            trade[houseCount] = ofTrade;
            town[houseCount] = ofTown;
            lawOf[houseCount] = law;
            houseCount++;
            return houseCount - 1;
        }

        private int addLetter(int house, int name, int worth, int es, int day) {
            Letter letter = letters[letterCount];
            letter.house = house;
            letter.name = name;
            letter.worth = worth;
            letter.errors = es / 4;
            letter.street = es % 4;
            letter.day = day;
            letter.becomeState(0);
            letterCount++;
            return letterCount - 1;
        }

        private int draw(int n) {
            r = r * 1103515245 + 12345;
            return n > 0 ? (r >>> 16) % n : 0;
        }

        private int dealTo(int house, int low, int high) {
            int ones = TWO_OF_FOUR[draw(6)];
            for (int k = 0; k < MOST_TO_A_HOUSE; k++) {
                int ofPeople = ones >> k & 1;
                int alike = ofPeople == 1 ? ones : ~ones;
                boolean first = (alike & ((1 << k) - 1)) == 0;
                int name = drawName(house, ofPeople);
                int street = draw(4);
                int day = draw(400);
                addLetter(house, name, first ? low : high, street, day);
            }
            return letterCount;
        }

        private int drawName(int house, int ofPeople) {
            int free = 0;
            for (int i = 0; i < nameCount; i++) {
                free += isFree(i, house, ofPeople) ? 1 : 0;
            }
            int at = draw(free);
            for (int i = 0; i < nameCount; i++) {
                if (isFree(i, house, ofPeople)) {
                    if (at == 0) {
                        return i;
                    }
                    at--;
                }
            }
            return 0;
        }

        private boolean isFree(int name, int house, int ofPeople) {
            for (int i = 0; i < letterCount; i++) {
                if (letters[i].house == house && letters[i].name == name) {
                    return false;
                }
            }
            return people[name] == ofPeople;
        }

        private int namesOf(int ofPeople) {
            int n = 0;
            for (int i = 0; i < nameCount; i++) {
                n += people[i] == ofPeople ? 1 : 0;
            }
            return n;
        }

        private int lettersTo(int house) {
            int n = 0;
            for (int i = 0; i < letterCount; i++) {
                n += letters[i].house == house ? 1 : 0;
            }
            return n;
        }

        private int peopleOf(Letter letter) {
            return people[letter.name];
        }

        private boolean hasRead(int house) {
            for (int i = 0; i < letterCount; i++) {
                if (letters[i].house == house && letters[i].read) {
                    return true;
                }
            }
            return false;
        }

        private int readCount() {
            int n = 0;
            for (int i = 0; i < letterCount; i++) {
                n += letters[i].read ? 1 : 0;
            }
            return n;
        }

        private int rungCount() {
            int n = 0;
            for (int i = 0; i < letterCount; i++) {
                n += letters[i].rung ? 1 : 0;
            }
            return n;
        }

        /** Sets the things of a letter alone; those of its house's reading are 0. */
        private void lookAt(Letter letter) {
            things[0] = letter.worth;
            things[1] = letter.errors;
            things[2] = letter.street;
            things[3] = letter.day;
            things[4] = people[letter.name];
            things[5] = sex[letter.name];
            things[6] = level[letter.name];
            things[7] = taken[letter.name];
            things[8] = trade[letter.house];
            things[9] = town[letter.house];
            things[10] = 0;
            things[11] = 0;
            things[12] = 0;
            things[13] = letter.rung ? 1 : 0;
        }

        private void lookAtHouse(int house) {
            for (int i = 0; i < letterCount; i++) {
                Letter letter = letters[i];
                if (letter.house == house && letter.read) {
                    things[10] += letter.rung ? 1 : 0;
                    things[11]++;
                    things[12] = letter.worth > things[12] ? letter.worth : things[12];
                }
            }
        }

        private int lawFor(int law, Letter letter) {
            lookAt(letter);
            lookAtHouse(letter.house);
            return laws[law].result(things);
        }

        private boolean passes(Letter letter, int filter) {
            if (filter == NONE) {
                return true;
            }
            lookAt(letter);
            return filters[filter].result(things) != 0;
        }

        private int readNext(int n) {
            int rings = 0;
            for (int k = 0; k < n; k++) {
                int i = nextUnread();
                if (i == NONE) {
                    break;
                }
                rings += isRungByHouse(letters[i]) ? 1 : 0;
            }
            return rings;
        }

        private int nextUnread() {
            int next = NONE;
            for (int i = 0; i < letterCount; i++) {
                if (!letters[i].read && (next == NONE || letters[i].day < letters[next].day)) {
                    next = i;
                }
            }
            return next;
        }

        private boolean isRungByHouse(Letter letter) {
            int drawn = draw(100);
            int law = lawOf[letter.house];
            letter.becomeRead(isLaw(law) && drawn < lawFor(law, letter));
            return letter.rung;
        }

        private int readAllWithoutRings() {
            int n = 0;
            for (int i = 0; i < letterCount; i++) {
                if (!letters[i].read) {
                    letters[i].becomeRead(false);
                    n++;
                }
            }
            return n;
        }

        private int readAsBoxed(int kind, int entries, int f, int step) {
            int n = 0;
            for (int i = 0; i < entries && i < letterCount; i++) {
                int entry = asHeld(kind, f + i * step);
                if (!letters[i].read && entry >= 0) {
                    letters[i].becomeRead(entry > 0);
                    n++;
                }
            }
            return n;
        }

        private static int asHeld(int kind, int v) {
            switch (kind) {
                case 0: return (byte) v;
                case 1: return (short) v;
                default: return v;
            }
        }

        private void keepUnder(int i) {
            keptCount[i] = letterCount;
            keptR[i] = r;
            for (int k = 0; k < letterCount; k++) {
                keptState[i][k] = letters[k].state();
            }
        }

        private boolean bringBack(int i) {
            if (keptCount[i] == NONE || keptCount[i] > letterCount) {
                return false;
            }
            letterCount = keptCount[i];
            r = keptR[i];
            for (int k = 0; k < letterCount; k++) {
                letters[k].becomeState(keptState[i][k]);
            }
            return true;
        }
    }

    /** How many letters of each people there are, and how many of them are rung. */
    private static final class Tally {
        private final int[] letters = new int[2];
        private final int[] rung = new int[2];

        private void clear() {
            letters[0] = 0;
            letters[1] = 0;
            rung[0] = 0;
            rung[1] = 0;
        }

        private void note(int people, boolean isRung) {
            letters[people]++;
            rung[people] += isRung ? 1 : 0;
        }

        private void becomeWithout(Tally all, Tally part) {
            for (int p = 0; p < 2; p++) {
                letters[p] = all.letters[p] - part.letters[p];
                rung[p] = all.rung[p] - part.rung[p];
            }
        }

        private boolean hasBoth() {
            return letters[0] > 0 && letters[1] > 0;
        }

        private int all() {
            return letters[0] + letters[1];
        }

        private long asideUpper() {
            return (long) rung[0] * letters[1] - (long) rung[1] * letters[0];
        }

        private long asideLower() {
            return (long) letters[0] * letters[1];
        }

        /** ASIDE times a number that both counts of letters divide. */
        private long asideTimes(long common) {
            return hasBoth() ? rung[0] * (common / letters[0]) - rung[1] * (common / letters[1]) : 0;
        }
    }

    /** Shares of letters, by people, and by names. */
    private static final class Shares {
        private final Told told;
        private final Row row;
        private final Tally all = new Tally();
        private final Tally part = new Tally();
        private final Tally rest = new Tally();
        private final long[] ways = new long[MOST_LETTERS + 1];
        private final int[] lettersOf = new int[MOST_NAMES];
        private final int[] rungOf = new int[MOST_NAMES];
        private final int[] met = new int[MOST_NAMES];
        private final long[] scaled = new long[MOST_NAMES];

        private Shares(Told told, Row row) {
            this.told = told;
            this.row = row;
        }

        private void gather(Tally tally, int filter, int house) {
            tally.clear();
            for (int i = 0; i < told.letterCount; i++) {
                Letter letter = told.letters[i];
                boolean asked = letter.read && (house == NONE || letter.house == house);
                if (asked && told.passes(letter, filter)) {
                    tally.note(told.peopleOf(letter), letter.rung);
                }
            }
        }

        private int tellShare(int filter) {
            if (!told.isFilter(filter)) {
                return NONE;
            }
            gather(all, filter, NONE);
            row.clear();
            if (all.all() > 0) {
                row.addFraction(all.rung[0] + all.rung[1], all.all());
            }
            return all.all();
        }

        private int tellAside(int filter) {
            if (!told.isFilter(filter)) {
                return NONE;
            }
            gather(all, filter, NONE);
            if (!all.hasBoth()) {
                return CANNOT_BE_TOLD;
            }
            row.clear();
            row.addFraction(all.asideUpper(), all.asideLower());
            for (int p = 0; p < 2; p++) {
                row.add(all.letters[p]);
                row.add(all.rung[p]);
            }
            return 0;
        }

        private int tellOdds(int filter, int what) {
            if (!told.isFilter(filter) || !within(what, 0, 2)) {
                return NONE;
            }
            countWays(filter);
            gather(all, filter, NONE);
            int rungNow = all.rung[1];
            long some = 0;
            long every = 0;
            for (int rings = 0; rings <= MOST_LETTERS; rings++) {
                boolean counts = what == 0 ? rings <= rungNow : what == 1 ? rings >= rungNow : rings == rungNow;
                some += counts ? ways[rings] : 0;
                every += ways[rings];
            }
            row.clear();
            row.addFraction(some, every);
            return 0;
        }

        /** By how many of the rung letters are of PEOPLE 1: in how many ways of all houses; 6 to the 24th at most. */
        private void countWays(int filter) {
            for (int rings = 0; rings <= MOST_LETTERS; rings++) {
                ways[rings] = rings == 0 ? 1 : 0;
            }
            for (int house = 0; house < told.houseCount; house++) {
                gather(part, filter, house);
                if (part.all() > 0) {
                    joinWaysOfPart();
                }
            }
        }

        private void joinWaysOfPart() {
            int rung = part.rung[0] + part.rung[1];
            int others = part.all() - rung;
            // from above, so that the lower ones are still those without this house
            for (int rings = MOST_LETTERS; rings >= 0; rings--) {
                long sum = 0;
                for (int own = 0; own <= rung && own <= rings; own++) {
                    long ownWays = choices(rung, own) * choices(others, part.letters[1] - own);
                    sum += ways[rings - own] * ownWays;
                }
                ways[rings] = sum;
            }
        }

        private int tellHeaviest() {
            gather(all, NONE, NONE);
            if (!all.hasBoth()) {
                return CANNOT_BE_TOLD;
            }
            int heaviest = NONE;
            long mostUpper = 0;
            long mostLower = 1;
            for (int house = 0; house < told.houseCount; house++) {
                gather(part, NONE, house);
                rest.becomeWithout(all, part);
                if (part.all() == 0 || !rest.hasBoth()) {
                    continue;
                }
                long change = all.asideUpper() * rest.asideLower() - rest.asideUpper() * all.asideLower();
                long upper = change < 0 ? -change : change;
                long lower = all.asideLower() * rest.asideLower();
                if (heaviest == NONE || upper * mostLower > mostUpper * lower) {
                    heaviest = house;
                    mostUpper = upper;
                    mostLower = lower;
                }
            }
            if (heaviest == NONE) {
                return CANNOT_BE_TOLD;
            }
            gather(part, NONE, heaviest);
            rest.becomeWithout(all, part);
            row.clear();
            row.addFraction(rest.asideUpper(), rest.asideLower());
            return heaviest;
        }

        /** Counts letters and rings by name; how many names have read letters, which are then met[0], met[1], .. */
        private int gatherNames() {
            for (int i = 0; i < MOST_NAMES; i++) {
                lettersOf[i] = 0;
                rungOf[i] = 0;
            }
            for (int i = 0; i < told.letterCount; i++) {
                Letter letter = told.letters[i];
                if (letter.read) {
                    lettersOf[letter.name]++;
                    rungOf[letter.name] += letter.rung ? 1 : 0;
                }
            }
            int n = 0;
            for (int i = 0; i < told.nameCount; i++) {
                if (lettersOf[i] > 0) {
                    met[n] = i;
                    n++;
                }
            }
            return n;
        }

        private int tellName(int name) {
            if (!told.isName(name)) {
                return NONE;
            }
            gatherNames();
            row.clear();
            if (lettersOf[name] > 0) {
                row.addFraction(rungOf[name], lettersOf[name]);
            }
            return lettersOf[name];
        }

        private int tellDrawn() {
            int n = gatherNames();
            if (n == 0) {
                return CANNOT_BE_TOLD;
            }
            scaleShares(n);
            int ones = 0;
            for (int k = 0; k < n; k++) {
                ones |= told.people[met[k]] << k;
            }
            int size = Integer.bitCount(ones);
            long sumNow = sumOfShares(ones, n);
            long some = 0;
            for (int set = 0; set < 1 << n; set++) {
                if (Integer.bitCount(set) == size && sumOfShares(set, n) <= sumNow) {
                    some++;
                }
            }
            row.clear();
            row.addFraction(some, choices(n, size));
            return 0;
        }

        private void scaleShares(int n) {
            long common = 1;
            for (int k = 0; k < n; k++) {
                common = leastMultiple(common, lettersOf[met[k]]);
            }
            for (int k = 0; k < n; k++) {
                int letters = lettersOf[met[k]];
                scaled[k] = letters > 0 ? rungOf[met[k]] * (common / letters) : 0;
            }
        }

        private long sumOfShares(int set, int n) {
            long sum = 0;
            for (int k = 0; k < n; k++) {
                sum += (set >> k & 1) == 1 ? scaled[k] : 0;
            }
            return sum;
        }

        private int compareShares(int a, int b) {
            return Integer.compare(rungOf[a] * lettersOf[b], rungOf[b] * lettersOf[a]);
        }

        private int compareBy(int what, int a, int b) {
            switch (what) {
                case 0: return Integer.compare(told.people[a], told.people[b]);
                case 1: return Integer.compare(told.sex[a], told.sex[b]);
                case 2: return Integer.compare(told.level[a], told.level[b]);
                default: return Integer.compare(told.taken[a], told.taken[b]);
            }
        }

        /** How many pairs of the n met names go this way: 1 with their shares, -1 against them, 0 neither. */
        private int pairsGoing(int what, int way, int n) {
            int pairs = 0;
            for (int j = 0; j < n; j++) {
                for (int k = 0; k < j; k++) {
                    int goes = compareBy(what, met[j], met[k]) * compareShares(met[j], met[k]);
                    pairs += Integer.compare(goes, 0) == way ? 1 : 0;
                }
            }
            return pairs;
        }

        private int tellGoing(int what) {
            if (!within(what, 0, 3)) {
                return NONE;
            }
            int n = gatherNames();
            row.clear();
            row.add(pairsGoing(what, -1, n));
            row.add(pairsGoing(what, 0, n));
            return pairsGoing(what, 1, n);
        }

        private int tellSaid() {
            int n = gatherNames();
            int said = 0;
            int most = 0;
            for (int what = 0; what < 4; what++) {
                int more = pairsGoing(what, 1, n) - pairsGoing(what, -1, n);
                if (Math.abs(more) > Math.abs(most)) {
                    said = what;
                    most = more;
                }
            }
            row.clear();
            row.add(most);
            return said;
        }

        private int tellChild(int off) {
            if (!within(off, 1, 9)) {
                return NONE;
            }
            int n = gatherNames();
            int pairs = 0;
            int greater = 0;
            int lesser = 0;
            for (int j = 0; j < n; j++) {
                for (int k = 0; k < n; k++) {
                    if (isChildPair(met[j], met[k], off)) {
                        int compared = compareShares(met[j], met[k]);
                        pairs++;
                        greater += compared > 0 ? 1 : 0;
                        lesser += compared < 0 ? 1 : 0;
                    }
                }
            }
            row.clear();
            row.add(pairs);
            row.add(lesser);
            return greater;
        }

        private boolean isChildPair(int high, int low, int off) {
            return told.people[high] == told.people[low] && told.sex[high] == told.sex[low]
                    && told.level[high] - told.level[low] >= off;
        }
    }

    /** Whole numbers without a bound that matters here, from 0 on. */
    private static final class Big {
        private static final int BASE = 100000000;

        private final long[] limbs;
        private int used;

        private Big(int length) {
            limbs = new long[length > 2 ? length : 2];
        }

        private void become(int v) {
            used = 1;
            limbs[0] = v;
            carry();
        }

        private void add(Big b) {
            stretch(b.used);
            for (int i = 0; i < b.used && i < used; i++) {
                limbs[i] += b.limbs[i];
            }
            carry();
        }

        private void times(long factor) {
            for (int i = 0; i < used; i++) {
                limbs[i] *= factor;
            }
            carry();
        }

        private void addProduct(Big a, Big b) {
            stretch(a.used + b.used);
            for (int i = 0; i < a.used; i++) {
                for (int j = 0; j < b.used && i + j < used; j++) {
                    limbs[i + j] += a.limbs[i] * b.limbs[j];
                }
            }
            carry();
        }

        private void stretch(int length) {
            for (int i = used; i < length && i < limbs.length; i++) {
                limbs[i] = 0;
                used = i + 1;
            }
        }

        private void carry() {
            stretch(used + 2);
            long over = 0;
            for (int i = 0; i < used; i++) {
                over += limbs[i];
                limbs[i] = over % BASE;
                over /= BASE;
            }
            while (used > 0 && limbs[used - 1] == 0) {
                used--;
            }
        }

        private long limb(int i) {
            return i >= 0 && i < used ? limbs[i] : 0;
        }

        private boolean isMoreThan(Big other) {
            if (used != other.used) {
                return used > other.used;
            }
            for (int i = used - 1; i >= 0; i--) {
                if (limbs[i] != other.limbs[i]) {
                    return limbs[i] > other.limbs[i];
                }
            }
            return false;
        }

        /** This by 10000 to the n-th, cut; it is known to be small. */
        private long cutBy(int n) {
            int at = n / 2;
            long two = limb(at + 1) * BASE + limb(at);
            return n % 2 == 0 ? two : two / 10000;
        }
    }

    /** Houses of kinds. */
    private static final class Kinds {
        private static final int KINDS = 4;
        private static final int TENTHS = 10;
        private static final int MOST_LIMBS = 30; // 24 houses by 1000000000 at most

        private final Told told;
        private final Row row;
        private final int[] zeroRings = {30, 30, 30, 0};
        private final int[] oneRings = {30, 15, 0, 0};
        private final int[] part = {1, 1, 1, 1};
        private final long[][] wouldBe = new long[MOST_HOUSES][KINDS];
        private final int[] sums = new int[MOST_HOUSES];
        private Big likeliest = new Big(MOST_LIMBS);
        private Big tried = new Big(MOST_LIMBS);

        private Kinds(Told told, Row row) {
            this.told = told;
            this.row = row;
        }

        private int rungIn(int house, int people) {
            int n = 0;
            for (int i = 0; i < told.letterCount; i++) {
                Letter letter = told.letters[i];
                n += letter.house == house && letter.rung && told.peopleOf(letter) == people ? 1 : 0;
            }
            return n;
        }

        private int housesWith(int a, int b) {
            if (!within(a, 0, MOST_TO_A_HOUSE) || !within(b, 0, MOST_TO_A_HOUSE)) {
                return NONE;
            }
            int n = 0;
            for (int house = 0; house < told.houseCount; house++) {
                n += told.hasRead(house) && rungIn(house, 0) == a && rungIn(house, 1) == b ? 1 : 0;
            }
            return n;
        }

        private boolean become(int kind, int zero, int one) {
            if (!within(kind, 0, KINDS - 1) || !within(zero, 0, 100) || !within(one, 0, 100)) {
                return false;
            }
            zeroRings[kind] = zero;
            oneRings[kind] = one;
            return true;
        }

        private int becomePart(int kind, int v) {
            if (!within(kind, 0, KINDS - 1) || !within(v, 0, 99)) {
                return NONE;
            }
            int sum = v - part[kind];
            for (int k = 0; k < KINDS; k++) {
                sum += part[k];
            }
            if (sum == 0) {
                return NONE;
            }
            int was = part[kind];
            part[kind] = v;
            return was;
        }

        /** How likely the read letters of a house are as they are, were it of a kind: by 100 for each of them. */
        private long likelihood(int house, int kind) {
            long product = 1;
            for (int i = 0; i < told.letterCount; i++) {
                Letter letter = told.letters[i];
                if (letter.house == house && letter.read) {
                    int rings = told.peopleOf(letter) == 0 ? zeroRings[kind] : oneRings[kind];
                    product *= letter.rung ? rings : 100 - rings;
                }
            }
            return product;
        }

        private int howLikely(int house, int kind) {
            boolean fits = told.isHouse(house) && within(kind, 0, KINDS - 1);
            return fits ? sumOfLikely(house, 1 << kind) : NONE;
        }

        /** Each kind's part is cut by itself, and then added. */
        private int sumOfLikely(int house, int bits) {
            long every = 0;
            for (int kind = 0; kind < KINDS; kind++) {
                wouldBe[house][kind] = part[kind] * likelihood(house, kind);
                every += wouldBe[house][kind];
            }
            if (every == 0) {
                return CANNOT_BE_TOLD;
            }
            long sum = 0;
            for (int kind = 0; kind < KINDS; kind++) {
                sum += (bits >> kind & 1) == 1 ? wouldBe[house][kind] * MILLION / every : 0;
            }
            return (int) sum;
        }

        private int tellFit() {
            int n = 0;
            for (int house = 0; house < told.houseCount; house++) {
                if (told.hasRead(house)) {
                    for (int kind = 0; kind < KINDS; kind++) {
                        wouldBe[n][kind] = likelihood(house, kind);
                    }
                    n++;
                }
            }
            likeliest.become(0);
            int best = NONE;
            // all ways in the order of their rows, so that of equal ones the least is met first
            for (int way = 0; way < 11 * 11 * 11; way++) {
                if (way / 121 + way / 11 % 11 + way % 11 <= TENTHS && isLikelier(way, n)) {
                    best = way;
                }
            }
            if (best == NONE) {
                return CANNOT_BE_TOLD;
            }
            row.clear();
            for (int kind = 0; kind < KINDS; kind++) {
                row.add(tenths(best, kind));
            }
            return n;
        }

        private static int tenths(int way, int kind) {
            int first = way / 121;
            int second = way / 11 % 11;
            int third = way % 11;
            switch (kind) {
                case 0: return first;
                case 1: return second;
                case 2: return third;
                default: return TENTHS - first - second - third;
            }
        }

        /** Whether this way is likelier than all before; then it is the likeliest one. */
        private boolean isLikelier(int way, int n) {
            tried.become(1);
            for (int k = 0; k < n; k++) {
                long sum = 0;
                for (int kind = 0; kind < KINDS; kind++) {
                    sum += tenths(way, kind) * wouldBe[k][kind];
                }
                if (sum == 0) {
                    return false;
                }
                tried.times(sum);
            }
            if (!tried.isMoreThan(likeliest)) {
                return false;
            }
            Big former = likeliest;
            likeliest = tried;
            tried = former;
            return true;
        }

        private void fillSums(int bits) {
            for (int house = 0; house < told.houseCount; house++) {
                sums[house] = told.hasRead(house) ? sumOfLikely(house, bits) : NONE;
            }
        }

        private boolean isNamed(int house, int line) {
            return sums[house] >= 0 && sums[house] >= line;
        }

        private long wronglyNamed(int line) {
            long sum = 0;
            for (int house = 0; house < told.houseCount; house++) {
                sum += isNamed(house, line) ? MILLION - sums[house] : 0;
            }
            return sum;
        }

        private int tellNamed(int bits, int line) {
            if (!within(bits, 1, 15) || !within(line, 0, MILLION)) {
                return NONE;
            }
            fillSums(bits);
            int n = 0;
            int which = 0;
            long letGo = 0;
            for (int house = 0; house < told.houseCount; house++) {
                if (isNamed(house, line)) {
                    n++;
                    which |= 1 << house;
                } else if (sums[house] >= 0) {
                    letGo += sums[house];
                }
            }
            row.clear();
            row.add(which);
            row.add(wronglyNamed(line));
            row.add(letGo);
            return n;
        }

        private int leastLine(int bits, int wrong) {
            if (!within(bits, 1, 15) || !within(wrong, 0, MOST_HOUSES * MILLION)) {
                return NONE;
            }
            fillSums(bits);
            for (int line = 0; line <= MILLION; line += 1000) {
                if (wronglyNamed(line) <= wrong) {
                    return line;
                }
            }
            return CANNOT_BE_TOLD;
        }

        private int fewerIn(int house) {
            int fewer = rungIn(house, 0) - rungIn(house, 1);
            return fewer > 0 ? fewer : 0;
        }

        private int tellMost() {
            int having = 0;
            int sum = 0;
            for (int house = 0; house < told.houseCount; house++) {
                int fewer = fewerIn(house);
                sums[house] = fewer;
                sum += fewer;
                having += fewer > 0 ? 1 : 0;
            }
            int taken = 0;
            int left = sum;
            for (int fewer = MOST_TO_A_HOUSE; fewer > 0; fewer--) {
                for (int house = 0; house < told.houseCount && left * 2 > sum; house++) {
                    if (sums[house] == fewer) {
                        left -= fewer;
                        taken++;
                    }
                }
            }
            row.clear();
            row.add(having);
            row.add(sum);
            return taken;
        }
    }

    /** What else goes with the rings, what comes after them, and what they cost. */
    private static final class Explained {
        private static final int MOST_VALUES = 10;

        private final Told told;
        private final Row row;
        private final Tally all = new Tally();
        private final Tally[] byValue = new Tally[MOST_VALUES];

        private Explained(Told told, Row row) {
            this.told = told;
            this.row = row;
            for (int v = 0; v < MOST_VALUES; v++) {
                byValue[v] = new Tally();
            }
        }

        private int valueOf(Letter letter, int what) {
            switch (what) {
                case 0: return letter.street;
                case 1: return told.trade[letter.house];
                case 2: return told.town[letter.house];
                default: return letter.errors;
            }
        }

        private void gatherBy(int what) {
            all.clear();
            for (int v = 0; v < MOST_VALUES; v++) {
                byValue[v].clear();
            }
            for (int i = 0; i < told.letterCount; i++) {
                Letter letter = told.letters[i];
                if (letter.read) {
                    all.note(told.peopleOf(letter), letter.rung);
                    byValue[valueOf(letter, what)].note(told.peopleOf(letter), letter.rung);
                }
            }
        }

        private void gatherWorth(Tally tally, int least, int most) {
            tally.clear();
            for (int i = 0; i < told.letterCount; i++) {
                Letter letter = told.letters[i];
                if (letter.read && within(letter.worth, least, most)) {
                    tally.note(told.peopleOf(letter), letter.rung);
                }
            }
        }

        private int tellBoth(int v) {
            if (!within(v, 1, 99)) {
                return NONE;
            }
            Tally high = byValue[0];
            Tally low = byValue[1];
            gatherWorth(high, v, 99);
            gatherWorth(low, 0, v - 1);
            if (!high.hasBoth() || !low.hasBoth()) {
                return CANNOT_BE_TOLD;
            }
            row.clear();
            for (int p = 0; p < 2; p++) {
                row.add(high.rung[p]);
                row.add(high.letters[p]);
                row.add(low.rung[p]);
                row.add(low.letters[p]);
            }
            // the highs' ASIDE less the lows' is the same as people by people
            long upper = high.asideUpper() * low.asideLower() - low.asideUpper() * high.asideLower();
            row.addFraction(upper, high.asideLower() * low.asideLower());
            return upper > 0 ? 1 : upper < 0 ? 2 : 0;
        }

        private int tellExplained(int what) {
            if (!within(what, 0, 3)) {
                return NONE;
            }
            gatherBy(what);
            long common = 1;
            int letters = 0;
            for (int v = 0; v < MOST_VALUES; v++) {
                if (byValue[v].hasBoth()) {
                    common = leastMultiple(common, byValue[v].letters[0]);
                    common = leastMultiple(common, byValue[v].letters[1]);
                    letters += byValue[v].all();
                }
            }
            if (letters == 0) {
                return CANNOT_BE_TOLD;
            }
            long joined = 0;
            for (int v = 0; v < MOST_VALUES; v++) {
                joined += byValue[v].asideTimes(common) * byValue[v].all();
            }
            long lower = common * letters;
            row.clear();
            row.addFraction(joined, lower);
            row.addFraction(all.asideUpper() * lower - joined * all.asideLower(), all.asideLower() * lower);
            return 0;
        }

        private int tellJoined(int what) {
            if (!within(what, 0, 2)) {
                return NONE;
            }
            gatherBy(what == 0 ? 1 : what == 1 ? 2 : 0);
            long common = 1;
            for (int v = 0; v < MOST_VALUES; v++) {
                int letters = byValue[v].all();
                common = letters > 0 ? leastMultiple(common, letters) : common;
            }
            long upper = 0;
            long lower = 0;
            for (int v = 0; v < MOST_VALUES; v++) {
                Tally tally = byValue[v];
                long weight = tally.all() > 0 ? common / tally.all() : 0;
                upper += weight * tally.rung[0] * (tally.letters[1] - tally.rung[1]);
                lower += weight * (tally.letters[0] - tally.rung[0]) * tally.rung[1];
            }
            if (lower == 0) {
                return CANNOT_BE_TOLD;
            }
            row.clear();
            row.addFraction(upper, lower);
            return 0;
        }

        private int tellBounds(int people) {
            if (!within(people, 0, 1)) {
                return NONE;
            }
            int letters = 0;
            int takenOn = 0;
            int notKnown = 0;
            for (int i = 0; i < told.letterCount; i++) {
                Letter letter = told.letters[i];
                if (letter.read && told.peopleOf(letter) == people) {
                    letters++;
                    takenOn += letter.rung && letter.after == 1 ? 1 : 0;
                    notKnown += letter.rung && letter.after == 0 ? 1 : 0;
                }
            }
            if (letters == 0) {
                return CANNOT_BE_TOLD;
            }
            row.clear();
            row.addFraction(takenOn, letters);
            row.addFraction(takenOn + notKnown, letters);
            return notKnown;
        }

        private int tellYears(int v) {
            if (!within(v, 0, 99)) {
                return NONE;
            }
            Tally more = byValue[0];
            gatherWorth(all, v, 99);
            for (int d = 0; v + d <= 99 && all.letters[0] > 0; d++) {
                gatherWorth(more, v + d, 99);
                if (more.letters[1] > 0
                        && more.rung[1] * all.letters[0] >= all.rung[0] * more.letters[1]) {
                    row.clear();
                    row.addFraction(more.rung[1], more.letters[1]);
                    return d;
                }
            }
            return CANNOT_BE_TOLD;
        }

        private int tellMornings(int read, int ring, int lost) {
            if (!within(read, 0, 99) || !within(ring, 0, 99) || !within(lost, 0, 999)) {
                return NONE;
            }
            int every = 0;
            int longest = NONE;
            int most = 0;
            for (int house = 0; house < told.houseCount; house++) {
                int sum = 0;
                for (int i = 0; i < told.letterCount; i++) {
                    Letter letter = told.letters[i];
                    if (letter.house == house && letter.read) {
                        sum += read + (letter.rung ? ring : 0);
                        sum += letter.rung && letter.after == NOT_TAKEN_ON ? lost : 0;
                    }
                }
                every += sum;
                if (longest == NONE || sum > most) {
                    longest = house;
                    most = sum;
                }
            }
            row.clear();
            row.add(longest);
            row.add(most);
            return every;
        }
    }

    /** A machine that is asked by pairs, and which laws could be its own. */
    private static final class Machine {
        private static final int MOST_ASKINGS = 40;

        private final Told told;
        private final Row row;
        private final int[] first = new int[MOST_ASKINGS];
        private final int[] second = new int[MOST_ASKINGS];
        private final int[] took = new int[MOST_ASKINGS];
        private int askings;
        private final int[][] values = new int[MOST_TEXTS][MOST_LETTERS];
        private final int[] against = new int[MOST_TEXTS];

        private Machine(Told told, Row row) {
            this.told = told;
            this.row = row;
        }

        private int noteAsking(int a, int b, int taken) {
            boolean fits = told.isLetter(a) && told.isLetter(b) && a != b && within(taken, 0, 2);
            if (!fits || askings == MOST_ASKINGS) {
                return NONE;
            }
            first[askings] = a;
            second[askings] = b;
            took[askings] = taken;
            askings++;
            return askings;
        }

        private void weigh() {
            for (int i = 0; i < told.letterCount; i++) {
                told.lookAt(told.letters[i]);
                for (int law = 0; law < MOST_TEXTS; law++) {
                    values[law][i] = told.isLaw(law) ? told.laws[law].result(told.things) : 0;
                }
            }
            for (int law = 0; law < MOST_TEXTS; law++) {
                against[law] = 0;
                for (int k = 0; k < askings; k++) {
                    against[law] += goesAgainst(law, first[k], second[k], took[k]) ? 1 : 0;
                }
            }
        }

        private boolean goesAgainst(int law, int a, int b, int taken) {
            int compared = Integer.compare(values[law][a], values[law][b]);
            switch (taken) {
                case 1: return compared < 0;
                case 2: return compared > 0;
                default: return compared != 0;
            }
        }

        private int weighedWithin(int wrong) {
            int bits = 0;
            for (int law = 0; law < MOST_TEXTS; law++) {
                if (told.isLaw(law) && against[law] <= wrong) {
                    bits |= 1 << law;
                }
            }
            return bits;
        }

        private int tellPairs() {
            weigh();
            row.clear();
            for (int law = 0; law < MOST_TEXTS; law++) {
                row.add(told.isLaw(law) ? against[law] : NONE);
            }
            return weighedWithin(0);
        }

        private int lawsWithin(int wrong) {
            if (!within(wrong, 0, MOST_ASKINGS)) {
                return NONE;
            }
            weigh();
            return weighedWithin(wrong);
        }

        private int tellNext() {
            weigh();
            int bits = weighedWithin(0);
            if (Integer.bitCount(bits) < 2 || told.letterCount < 2) {
                return CANNOT_BE_TOLD;
            }
            int fewest = MOST_TEXTS + 1;
            int nextA = 0;
            int nextB = 0;
            for (int a = 0; a < told.letterCount; a++) {
                for (int b = a + 1; b < told.letterCount; b++) {
                    int left = mostLeft(bits, a, b);
                    if (left < fewest) {
                        fewest = left;
                        nextA = a;
                        nextB = b;
                    }
                }
            }
            row.clear();
            row.add(nextA);
            row.add(nextB);
            return fewest;
        }

        /** A law by which both are alike goes against no answer, the others go against all answers but one. */
        private int mostLeft(int bits, int a, int b) {
            int alike = 0;
            int firsts = 0;
            int seconds = 0;
            for (int law = 0; law < MOST_TEXTS; law++) {
                if ((bits >> law & 1) == 1) {
                    int compared = Integer.compare(values[law][a], values[law][b]);
                    alike += compared == 0 ? 1 : 0;
                    firsts += compared > 0 ? 1 : 0;
                    seconds += compared < 0 ? 1 : 0;
                }
            }
            return alike + Math.max(firsts, seconds);
        }
    }

    /** How many letters it takes. */
    private static final class Chances {
        private static final int MOST = 16;
        private static final int MOST_OFF = 16;
        private static final int SMALL = 6; // limbs of 10 to the 32nd, and one to carry
        private static final int LARGE = 12; // limbs of 10 to the 70th, and more

        private final Row row;
        private final Big[] zeroWays = new Big[MOST + 1];
        private final Big[] oneWays = new Big[MOST + 1];
        private final Big[] oneUpTo = new Big[MOST + 1];
        private final Big sum = new Big(LARGE);

        private Chances(Row row) {
            this.row = row;
            for (int i = 0; i <= MOST; i++) {
                zeroWays[i] = new Big(SMALL);
                oneWays[i] = new Big(SMALL);
                oneUpTo[i] = new Big(SMALL);
            }
        }

        private int chanceOf(int n, int zero, int one, int off) {
            boolean fits = within(n, 1, MOST) && within(off, 1, MOST_OFF);
            if (!fits || !within(zero, 0, 100) || !within(one, 0, 100)) {
                return NONE;
            }
            fill(n, zero, one);
            return chance(n, off, zeroWays);
        }

        private int tellLeast(int zero, int one, int power, int wrong) {
            boolean fits = within(power, 1, MILLION) && within(wrong, 0, MILLION);
            if (!fits || !within(zero, 0, 100) || !within(one, 0, 100)) {
                return NONE;
            }
            for (int n = 1; n <= MOST; n++) {
                fill(n, zero, one);
                for (int off = 1; off <= n; off++) {
                    boolean seldomWrong = chance(n, off, oneWays) <= wrong;
                    if (seldomWrong && chance(n, off, zeroWays) >= power) {
                        row.clear();
                        row.add(off);
                        return n;
                    }
                    if (seldomWrong) {
                        // a greater off is no likelier to show it
                        break;
                    }
                }
            }
            return CANNOT_BE_TOLD;
        }

        private void fill(int n, int zero, int one) {
            for (int rings = 0; rings <= n; rings++) {
                fillWays(zeroWays[rings], n, rings, zero);
                fillWays(oneWays[rings], n, rings, one);
                oneUpTo[rings].become(0);
                if (rings > 0) {
                    oneUpTo[rings].add(oneUpTo[rings - 1]);
                }
                oneUpTo[rings].add(oneWays[rings]);
            }
        }

        private static void fillWays(Big ways, int n, int rings, int percent) {
            ways.become((int) choices(n, rings));
            for (int k = 0; k < n; k++) {
                ways.times(k < rings ? percent : 100 - percent);
            }
        }

        private int chance(int n, int off, Big[] ways) {
            sum.become(0);
            for (int rings = off; rings <= n; rings++) {
                sum.addProduct(ways[rings], oneUpTo[rings - off]);
            }
            sum.times(MILLION);
            return (int) sum.cutBy(n);
        }
    }
}
