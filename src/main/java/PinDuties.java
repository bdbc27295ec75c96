/** Pins along a street, each of them an undertaking: the class that ../shared/DOC.md tells of. */
public final class PinDuties {
    public static final int BAD = -1, FULL = -2, FINDING = -3, STATE = -4, SPENT = -6, NONE = -9;

    private static final int NOTHING = 1, BEYOND = 2, UNLIKE = 3, NOUGHT = 4, SIZE = 5, FOUND = 6;
    private static final int ROWS = 6, TEXTS = 4, KEPT = 3;
    private static final int ROW_MOST = 40, TEXT_MOST = 60, PINS_MOST = 8, DEEDS_MOST = 40;
    private static final int SETS = 1 << PINS_MOST, LAST_PLACE = 9, LUCKS = 10, HOURS = 13, COUNTS = 11;
    private static final int PIN = 0, COLD = 1, LUNCH = 2, MARE = 3, BRIDE = 4, WRIT = 5, KINDS = 6;
    private static final int[] LETTERS = {112, 99, 108, 109, 98, 119};
    private static final int BLANK = 32, FIGURE_0 = 48, SIGNS = 5, SIGN_LONG = 3, LONG_MOST = 4;
    private static final int LUNCH_HOUR = 5, WORTH_LEAST = -20, WORTH_MOST = 60;
    private static final int TWELVE = 12, LOT_TIMES = 48271, LOT_MODULUS = 2147483647;
    private static final int STEP_ON = 0, STEP_BACK = 1, SWEEP = 2, PICK = 8, DROP = 16;

    private final Cells[] rows = new Cells[ROWS];
    private final Cells[] texts = new Cells[TEXTS];
    private final Deeds[] kept = new Deeds[KEPT];
    private final Street street = new Street();
    private final int[] found = new int[FOUND];
    private int latest = 0;
    private int told = 0;
    private long above = 0;
    private long below = 1;

    // Everything that calls need is made here, since what calls make is never given back.
    public PinDuties() {
        for (int r = 0; r < ROWS; r++) {
            rows[r] = new Cells();
        }
        for (int t = 0; t < TEXTS; t++) {
            texts[t] = new Cells();
        }
        for (int k = 0; k < KEPT; k++) {
            kept[k] = new Deeds();
        }
    }

    // ---- 1 rows, texts, streets

    public int row(int r, int n) {
        return makeCells(rowAt(r), n, ROW_MOST, 0);
    }

    public int lay(int r, int i, int v) {
        Cells row = rowAt(r);
        int refused = refusePlace(row, i);
        if (row == null || refused != 0) {
            return refused;
        }
        told = row.cellAt(i);
        row.setCell(i, v);
        return 1;
    }

    public int at(int r, int i) {
        Cells row = rowAt(r);
        int refused = refusePlace(row, i);
        if (row == null || refused != 0) {
            return refused;
        }
        told = row.cellAt(i);
        return 1;
    }

    public int tear(int r) {
        Cells row = rowAt(r);
        int refused = refuseMissing(row);
        if (row == null || refused != 0) {
            return refused;
        }
        row.size = -1;
        return 1;
    }

    public int copy(int r, int i, int to, int j, int n) {
        Cells from = rowAt(r);
        Cells into = rowAt(to);
        if (from == null || into == null) {
            return BAD;
        }
        if (n < 0) {
            return find(SIZE);
        }
        if (from.isMissing() || into.isMissing()) {
            return find(NOTHING);
        }
        if (!from.hasRun(i, n) || !into.hasRun(j, n)) {
            return find(BEYOND);
        }
        System.arraycopy(from.cells, i, into.cells, j, n);
        return 1;
    }

    public int mean(int r) {
        Cells row = rowAt(r);
        int refused = refuseMissing(row);
        if (row == null || refused != 0) {
            return refused;
        }
        if (row.size == 0) {
            return find(NOUGHT);
        }
        // An int would not hold the sum of forty ints.
        long sum = 0;
        for (int i = 0; i < row.size; i++) {
            sum += row.cellAt(i);
        }
        told = (int) (sum / row.size);
        return 1;
    }

    public int text(int t, int n) {
        return makeCells(textAt(t), n, TEXT_MOST, BLANK);
    }

    public int put(int t, int i, int v) {
        Cells text = textAt(t);
        int refused = refusePlace(text, i);
        if (text == null || refused != 0) {
            return refused;
        }
        int old = text.cellAt(i);
        text.setCell(i, (byte) v);
        return old + 1000;
    }

    public int fault(int t) {
        Cells text = textAt(t);
        int refused = refuseMissing(text);
        if (text == null || refused != 0) {
            return refused;
        }
        return firstFault(text);
    }

    public int street(int t) {
        Cells text = textAt(t);
        int refused = refuseMissing(text);
        if (text == null || refused != 0) {
            return refused;
        }
        if (firstFault(text) != NONE) {
            return STATE;
        }
        street.pins.read(text);
        street.goBackTo(0);
        for (int k = 0; k < KEPT; k++) {
            kept[k].done = -1;
        }
        return street.pins.many;
    }

    public int pin(int k, int what) {
        if (!street.pins.has(k) || what < 0 || what > 7) {
            return BAD;
        }
        told = street.tellPin(k, what);
        return 1;
    }

    public int mark(int k, int kind) {
        Pins pins = street.pins;
        if (!pins.has(k) || kind <= PIN || kind >= KINDS) {
            return BAD;
        }
        if (!isOf(pins.kind[k], kind)) {
            return find(UNLIKE);
        }
        int worth = pins.value[k];
        int luck = pins.luck[k];
        switch (kind) {
            case COLD:
                return 100 + worth;
            case BRIDE:
                return 100 + worth - pins.valueAs(k, LUNCH, luck);
            case WRIT:
                return 100 + worth - pins.valueAs(k, COLD, luck);
            default:
                return 100 + worth - pins.valueAs(k, PIN, luck);
        }
    }

    public int worth(int k, int luck) {
        Pins pins = street.pins;
        if (!pins.has(k) || !isLuck(luck)) {
            return BAD;
        }
        told = pins.valueAs(k, pins.kind[k], luck);
        return 1;
    }

    // ---- 2 deeds

    public int step(int s) {
        if (s != 1 && s != -1) {
            return BAD;
        }
        int next = street.place + s;
        if (street.pins.many == 0 || next < 0 || next > LAST_PLACE) {
            return STATE;
        }
        if (!street.hasRoomFor(1)) {
            return FULL;
        }
        street.enact(s == 1 ? STEP_ON : STEP_BACK);
        return street.place;
    }

    public int pick(int k) {
        if (!street.pins.has(k)) {
            return BAD;
        }
        if ((street.lyingHere() >> k & 1) == 0) {
            return STATE;
        }
        if (!street.hasRoomFor(1)) {
            return FULL;
        }
        street.enact(PICK + k);
        return Integer.bitCount(street.held);
    }

    public int drop(int k) {
        if (!street.pins.has(k)) {
            return BAD;
        }
        if ((street.held >> k & 1) == 0) {
            return STATE;
        }
        if (!street.hasRoomFor(1)) {
            return FULL;
        }
        street.enact(DROP + k);
        return Integer.bitCount(street.held);
    }

    public int sweep() {
        if (street.pins.many == 0) {
            return STATE;
        }
        if (!street.hasRoomFor(1)) {
            return FULL;
        }
        int gone = Integer.bitCount(street.lyingHere());
        street.enact(SWEEP);
        return gone;
    }

    public int undo(int n) {
        int done = street.deeds.done;
        if (n < 0 || n > done) {
            return BAD;
        }
        street.goBackTo(n);
        return done - n;
    }

    public int keep(int k) {
        Deeds place = keptAt(k);
        if (place == null) {
            return BAD;
        }
        if (street.pins.many == 0) {
            return STATE;
        }
        place.takeOver(street.deeds);
        return place.done;
    }

    public int on(int k) {
        Deeds place = keptAt(k);
        if (place == null) {
            return BAD;
        }
        if (place.done < 0) {
            return find(NOTHING);
        }
        street.deeds.takeOver(place);
        street.goBackTo(place.done);
        return place.done;
    }

    // ---- 3 the day (aside)

    public int busy() {
        Pins pins = street.pins;
        int once = 0;
        int twice = 0;
        for (int k = 0; k < pins.many; k++) {
            if ((street.held >> k & 1) != 0) {
                twice |= once & pins.hours[k];
                once |= pins.hours[k];
            }
        }
        told = twice;
        return once;
    }

    public int clashes() {
        Pins pins = street.pins;
        int pairs = 0;
        for (int k = 0; k < pins.many; k++) {
            if ((street.held >> k & 1) != 0) {
                int ahead = street.held & ((1 << k) - 1);
                pairs += Integer.bitCount(ahead & ~pins.apartFrom(pins.hours[k]));
            }
        }
        told = pins.sumOf(street.held);
        return pairs;
    }

    public int least() {
        Pins pins = street.pins;
        int fewest = PINS_MOST + 1;
        int which = 0;
        for (int set = 0; set <= street.held; set++) {
            boolean ofHeld = (set & ~street.held) == 0;
            if (ofHeld && pins.isApart(street.held & ~set) && Integer.bitCount(set) < fewest) {
                fewest = Integer.bitCount(set);
                which = set;
            }
        }
        told = which;
        return fewest;
    }

    public int best(int r) {
        Cells row = rowAt(r);
        if (row == null) {
            return BAD;
        }
        Pins pins = street.pins;
        if (pins.many == 0) {
            return STATE;
        }
        int there = pins.all() & ~street.swept;
        int set = pins.leastOfMost(there);
        told = set;
        pins.orderInto(row, set);
        return pins.mostOf(there);
    }

    // ---- 4 ways (aside)

    public int walk(int set) {
        if (set < 0 || set > street.pins.all()) {
            return BAD;
        }
        if ((set & ~street.lying()) != 0) {
            return STATE;
        }
        if (set == 0) {
            told = street.place;
            return 0;
        }
        int low = street.lowest(set);
        int high = street.highest(set);
        boolean endsLow = street.stepsBy(high, low) <= street.stepsBy(low, high);
        told = endsLow ? low : high;
        return street.stepsFor(set);
    }

    public int within(int n) {
        if (n < 0 || n > 20) {
            return BAD;
        }
        Pins pins = street.pins;
        if (pins.many == 0) {
            return STATE;
        }
        int free = street.lying() & pins.apartFrom(pins.hoursOf(street.held));
        int most = 0;
        int which = 0;
        for (int set = 1; set <= free; set++) {
            boolean better = (set & ~free) == 0 && pins.isApart(set) && pins.sumOf(set) > most;
            if (better && street.stepsFor(set) <= n) {
                most = pins.sumOf(set);
                which = set;
            }
        }
        told = which;
        return most;
    }

    // ---- 5 whose day it was

    public int whose(int r) {
        Cells row = rowAt(r);
        if (row == null) {
            return BAD;
        }
        if (street.pins.many == 0) {
            return STATE;
        }
        if (row.isMissing()) {
            return find(NOTHING);
        }
        if (row.size != HOURS) {
            return find(SIZE);
        }
        int busy = row.placesOf(1);
        int known = busy | row.placesOf(0);
        if ((known | row.placesOf(NONE)) != (1 << HOURS) - 1) {
            return find(UNLIKE);
        }
        return countWhose(busy, known);
    }

    public int kinds(int k, int r) {
        int refused = refusePairs(k, r);
        return refused != 0 ? refused : kindsBy(k, rowAt(r));
    }

    public int test(int k, int r) {
        int refused = refusePairs(k, r);
        if (refused != 0) {
            return refused;
        }
        int kinds = kindsBy(k, rowAt(r));
        if (kinds == 0) {
            return NONE;
        }
        int leastPart = KINDS + 1;
        int first = 0;
        for (int luck = 0; luck < LUCKS; luck++) {
            int part = street.pins.greatestPart(k, kinds, luck);
            if (part < leastPart) {
                leastPart = part;
                first = luck;
            }
        }
        told = leastPart;
        return first;
    }

    public int lucks(int k, int v) {
        Pins pins = street.pins;
        if (!pins.has(k) || !isWorth(v)) {
            return BAD;
        }
        int bits = 0;
        for (int luck = 0; luck < LUCKS; luck++) {
            if (pins.valueAs(k, pins.kind[k], luck) == v) {
                bits |= 1 << luck;
            }
        }
        return bits;
    }

    // ---- 6 by turns

    public int duel(int n) {
        if (n < 0 || n > 4) {
            return BAD;
        }
        if (street.pins.many == 0) {
            return STATE;
        }
        return 500 + gainByTurns(street.pins, n, street.lying(), 0, 0);
    }

    // ---- 7 chances, lots

    public int odds(int v, int p) {
        if (v < 0 || v > 200 || p < 0 || p > TWELVE) {
            return BAD;
        }
        if (street.pins.many == 0) {
            return STATE;
        }
        int lying = street.lying();
        long sum = 0;
        for (int left = 0; left <= lying; left++) {
            if ((left & ~lying) == 0 && street.pins.mostOf(street.held | left) >= v) {
                sum += weigh(left, lying, p);
            }
        }
        tellFraction(sum, power(TWELVE, Integer.bitCount(lying)));
        return 1;
    }

    public int mid(int p) {
        if (p < 0 || p > TWELVE) {
            return BAD;
        }
        if (street.pins.many == 0) {
            return STATE;
        }
        int lying = street.lying();
        long sum = 0;
        for (int left = 0; left <= lying; left++) {
            if ((left & ~lying) == 0) {
                sum += weigh(left, lying, p) * street.pins.mostOf(street.held | left);
            }
        }
        tellFraction(sum, power(TWELVE, Integer.bitCount(lying)));
        return 1;
    }

    public int lots(int n, int seed) {
        if (n < 1 || n > 20 || seed < 1 || seed >= LOT_MODULUS) {
            return BAD;
        }
        if (street.pins.many == 0) {
            return STATE;
        }
        if (!street.hasRoomFor(n)) {
            return FULL;
        }
        long number = seed;
        for (int i = 0; i < n; i++) {
            number = number * LOT_TIMES % LOT_MODULUS;
            street.enact(street.deedByLot(number));
        }
        return street.place;
    }

    // ---- 8 what is told

    public int asked() {
        return told;
    }

    public long upper() {
        return above;
    }

    public long lower() {
        return below;
    }

    public int count(int what) {
        return what < 0 || what >= COUNTS ? BAD : countOf(what);
    }

    public int finding() {
        return latest;
    }

    public int findings(int f) {
        return f < NOTHING || f > SIZE ? BAD : found[f];
    }

    public long digest() {
        long h = 17;
        for (int what = 0; what < COUNTS; what++) {
            h = 31 * h + countOf(what);
        }
        for (int k = 0; k < street.pins.many; k++) {
            for (int what = 0; what <= 7; what++) {
                h = 31 * h + street.tellPin(k, what);
            }
        }
        for (int k = 0; k < KEPT; k++) {
            h = 31 * h + kept[k].done;
        }
        for (int r = 0; r < ROWS; r++) {
            h = rows[r].digestFrom(h);
        }
        for (int t = 0; t < TEXTS; t++) {
            h = texts[t].digestFrom(h);
        }
        return h;
    }

    // ---- what the calls above share

    private Cells rowAt(int r) {
        return r >= 0 && r < ROWS ? rows[r] : null;
    }

    private Cells textAt(int t) {
        return t >= 0 && t < TEXTS ? texts[t] : null;
    }

    private Deeds keptAt(int k) {
        return k >= 0 && k < KEPT ? kept[k] : null;
    }

    private int find(int f) {
        latest = f;
        if (f >= NOTHING && f <= SIZE) {
            found[f]++;
        }
        return FINDING;
    }

    private int makeCells(Cells cells, int n, int most, int v) {
        if (cells == null || n > most) {
            return BAD;
        }
        if (n < 0) {
            return find(SIZE);
        }
        cells.begin(n, v);
        return n;
    }

    /** What a call with a row or text is refused by; 0: it is not. */
    private int refuseMissing(Cells cells) {
        if (cells == null) {
            return BAD;
        }
        return cells.isMissing() ? find(NOTHING) : 0;
    }

    /** What a call with a place of a row or text is refused by; 0: it is not. */
    private int refusePlace(Cells cells, int i) {
        int refused = refuseMissing(cells);
        if (cells == null || refused != 0) {
            return refused;
        }
        return cells.hasCell(i) ? 0 : find(BEYOND);
    }

    /** What a call with a pin and a row of pairs is refused by; 0: it is not. */
    private int refusePairs(int k, int r) {
        Cells row = rowAt(r);
        if (row == null || !street.pins.has(k)) {
            return BAD;
        }
        if (row.isMissing()) {
            return find(NOTHING);
        }
        if (row.size % 2 != 0) {
            return find(SIZE);
        }
        for (int i = 0; i < row.size; i += 2) {
            if (!isLuck(row.cellAt(i)) || !isWorth(row.cellAt(i + 1))) {
                return find(UNLIKE);
            }
        }
        return 0;
    }

    /** The kinds that a pin can be of by a row of pairs. */
    private int kindsBy(int k, Cells row) {
        int bits = 0;
        for (int kind = 0; kind < KINDS; kind++) {
            boolean fits = row != null;
            for (int i = 0; fits && i < row.size; i += 2) {
                fits = street.pins.valueAs(k, kind, row.cellAt(i)) == row.cellAt(i + 1);
            }
            if (fits) {
                bits |= 1 << kind;
            }
        }
        return bits;
    }

    /** How many sets not swept have just these hours among the known ones. */
    private int countWhose(int busy, int known) {
        Pins pins = street.pins;
        int many = 0;
        int first = 0;
        for (int set = 0; set <= pins.all(); set++) {
            if ((set & street.swept) == 0 && (pins.hoursOf(set) & known) == busy) {
                if (many == 0) {
                    first = set;
                }
                many++;
            }
        }
        if (many == 0) {
            return NONE;
        }
        told = first;
        return many;
    }

    private int countOf(int what) {
        switch (what) {
            case 0:
                return street.pins.many;
            case 1:
                return street.place;
            case 2:
                return street.deeds.done;
            case 3:
                return street.held;
            case 4:
                return street.lying();
            case 5:
                return street.swept;
            case 6:
                return countThere(rows);
            case 7:
                return countThere(texts);
            case 8:
                return countKept();
            case 9:
                return street.pins.countOfKind(COLD);
            default:
                return street.pins.countOfKind(LUNCH);
        }
    }

    private static int countThere(Cells[] all) {
        int many = 0;
        for (int i = 0; i < all.length; i++) {
            if (!all[i].isMissing()) {
                many++;
            }
        }
        return many;
    }

    private int countKept() {
        int many = 0;
        for (int k = 0; k < KEPT; k++) {
            if (kept[k].done >= 0) {
                many++;
            }
        }
        return many;
    }

    /** Of 12 by 12 .. how many tell that of those that lie just these are left. */
    private static long weigh(int left, int lying, int p) {
        int gone = lying & ~left;
        return power(TWELVE - p, Integer.bitCount(left)) * power(p, Integer.bitCount(gone));
    }

    private static long power(long base, int times) {
        long product = 1;
        for (int i = 0; i < times; i++) {
            product *= base;
        }
        return product;
    }

    private void tellFraction(long over, long under) {
        long divisor = over;
        long rest = under;
        // Euclid's steps are far fewer than a thousand for any two longs.
        for (int i = 0; i < 1000 && divisor != 0; i++) {
            long next = rest % divisor;
            rest = divisor;
            divisor = next;
        }
        if (rest > 0) {
            above = over / rest;
            below = under / rest;
        }
    }

    /** The most that who is next gets less the other one, by so many turns. */
    private static int gainByTurns(Pins pins, int turns, int free, int mine, int others) {
        if (turns <= 0) {
            return 0;
        }
        int most = -gainByTurns(pins, turns - 1, free, others, mine);
        for (int k = 0; k < pins.many; k++) {
            boolean can = (free >> k & 1) != 0 && (pins.hours[k] & mine) == 0;
            if (can) {
                int later = gainByTurns(pins, turns - 1, free & ~(1 << k), others, mine | pins.hours[k]);
                most = Math.max(most, pins.value[k] - later);
            }
        }
        return most;
    }

    private static boolean isLuck(int luck) {
        return luck >= 0 && luck < LUCKS;
    }

    private static boolean isWorth(int v) {
        return v >= WORTH_LEAST && v <= WORTH_MOST;
    }

    /** Whether what is of the one kind is of the other one, too. */
    private static boolean isOf(int kind, int other) {
        return kind == other || other == PIN || kind == BRIDE && other == LUNCH || kind == WRIT && other == COLD;
    }

    /** The kind that a letter tells; NONE: it is no such letter. */
    private static int kindOfLetter(int letter) {
        for (int kind = 0; kind < KINDS; kind++) {
            if (LETTERS[kind] == letter) {
                return kind;
            }
        }
        return NONE;
    }

    /** The first place at which a text can't go on as a street; NONE: there is no such place. */
    private static int firstFault(Cells text) {
        int pins = 0;
        int sign = 0;
        for (int i = 0; i < text.size; i++) {
            int c = text.cellAt(i);
            if (sign > 0 || c != BLANK) {
                if (pins >= PINS_MOST || !isSign(sign, c)) {
                    return i;
                }
                sign++;
                if (sign == SIGNS) {
                    sign = 0;
                    pins++;
                }
            }
        }
        return sign > 0 || pins == 0 ? text.size : NONE;
    }

    /** Whether c can be the sign of this number (0: the letter) of a pin. */
    private static boolean isSign(int sign, int c) {
        if (sign == 0) {
            return kindOfLetter(c) != NONE;
        }
        int figure = c - FIGURE_0;
        return sign == SIGN_LONG ? figure >= 1 && figure <= LONG_MOST : figure >= 0 && figure <= 9;
    }

    /** A row or a text; its size is -1, while it is missing. */
    private static final class Cells {
        int size = -1;
        final int[] cells = new int[TEXT_MOST];

        boolean isMissing() {
            return size < 0;
        }

        boolean hasCell(int i) {
            return i >= 0 && i < size;
        }

        boolean hasRun(int i, int n) {
            return n >= 0 && i >= 0 && i <= size - n;
        }

        int cellAt(int i) {
            return i >= 0 && i < cells.length ? cells[i] : 0;
        }

        void setCell(int i, int v) {
            if (i >= 0 && i < cells.length) {
                cells[i] = v;
            }
        }

        void begin(int n, int v) {
            size = Math.min(n, cells.length);
            for (int i = 0; i < size; i++) {
                cells[i] = v;
            }
        }

        void append(int v) {
            if (size >= 0 && size < cells.length) {
                cells[size] = v;
                size++;
            }
        }

        /** The places (bits) of the first thirteen that hold v. */
        int placesOf(int v) {
            int bits = 0;
            for (int i = 0; i < size && i < HOURS; i++) {
                if (cells[i] == v) {
                    bits |= 1 << i;
                }
            }
            return bits;
        }

        long digestFrom(long ahead) {
            long h = 31 * ahead + size;
            for (int i = 0; i < size; i++) {
                h = 31 * h + cells[i];
            }
            return h;
        }
    }

    /** The deeds done on a street, as codes; done is -1, where a kept street is missing. */
    private static final class Deeds {
        int done = -1;
        final int[] codes = new int[DEEDS_MOST];

        void takeOver(Deeds other) {
            done = other.done;
            for (int i = 0; i < DEEDS_MOST; i++) {
                codes[i] = other.codes[i];
            }
        }
    }

    /** The pins as a text tells them, and what each set of them comes to. */
    private static final class Pins {
        int many = 0;
        final int[] kind = new int[PINS_MOST];
        final int[] place = new int[PINS_MOST];
        final int[] hour = new int[PINS_MOST];
        final int[] length = new int[PINS_MOST];
        final int[] luck = new int[PINS_MOST];
        final int[] hours = new int[PINS_MOST];
        final int[] value = new int[PINS_MOST];
        // Of a set: its hours, what it is worth, whether no two clash, the most that a part without a clash is worth.
        final int[] unions = new int[SETS];
        final int[] sums = new int[SETS];
        final boolean[] apart = new boolean[SETS];
        final int[] most = new int[SETS];

        Pins() {
            apart[0] = true;
        }

        boolean has(int k) {
            return k >= 0 && k < many;
        }

        int hoursOf(int set) {
            return isSet(set) ? unions[set] : 0;
        }

        int sumOf(int set) {
            return isSet(set) ? sums[set] : 0;
        }

        boolean isApart(int set) {
            return isSet(set) && apart[set];
        }

        int mostOf(int set) {
            return isSet(set) ? most[set] : 0;
        }

        private static boolean isSet(int set) {
            return set >= 0 && set < SETS;
        }

        int all() {
            return (1 << many) - 1;
        }

        /** Reads a text that has no fault. */
        void read(Cells text) {
            many = 0;
            int sign = 0;
            for (int i = 0; i < text.size && many < PINS_MOST; i++) {
                int c = text.cellAt(i);
                if (c != BLANK) {
                    takeSign(sign, c);
                    sign++;
                    if (sign == SIGNS) {
                        sign = 0;
                        many++;
                    }
                }
            }
            for (int k = 0; k < many; k++) {
                hours[k] = ((1 << length[k]) - 1) << hour[k];
                value[k] = valueAs(k, kind[k], luck[k]);
            }
            for (int k = 0; k < many; k++) {
                reckonSetsTo(k);
            }
        }

        private void takeSign(int sign, int c) {
            if (many < 0 || many >= PINS_MOST) {
                return;
            }
            switch (sign) {
                case 0:
                    kind[many] = kindOfLetter(c);
                    break;
                case 1:
                    place[many] = c - FIGURE_0;
                    break;
                case 2:
                    hour[many] = c - FIGURE_0;
                    break;
                case SIGN_LONG:
                    length[many] = c - FIGURE_0;
                    break;
                default:
                    luck[many] = c - FIGURE_0;
                    break;
            }
        }

        /** Reckons the sets whose last pin is k from those of the pins ahead of it. */
        private void reckonSetsTo(int k) {
            int bit = 1 << k;
            int mates = apartFrom(hours[k]);
            for (int rest = 0; rest < bit && (rest | bit) < SETS; rest++) {
                int set = rest | bit;
                unions[set] = unions[rest] | hours[k];
                sums[set] = sums[rest] + value[k];
                apart[set] = apart[rest] && (unions[rest] & hours[k]) == 0;
                most[set] = Math.max(most[rest], value[k] + most[rest & mates]);
            }
        }

        /** What a pin would be worth, were it of this kind, with this luck. */
        int valueAs(int k, int ofKind, int withLuck) {
            if (!has(k)) {
                return 0;
            }
            int lunch = (hours[k] >> LUNCH_HOUR & 1) != 0 ? withLuck + 3 : withLuck;
            switch (ofKind) {
                case COLD:
                    return withLuck - 10;
                case LUNCH:
                    return lunch;
                case MARE:
                    return withLuck * length[k];
                case BRIDE:
                    return 2 * lunch;
                case WRIT:
                    return withLuck - 10 - length[k];
                default:
                    return withLuck;
            }
        }

        /** The pins (bits) that have none of these hours. */
        int apartFrom(int bits) {
            int set = 0;
            for (int k = 0; k < many; k++) {
                if ((hours[k] & bits) == 0) {
                    set |= 1 << k;
                }
            }
            return set;
        }

        /** The least number of a set of these, without a clash, that is worth the most. */
        int leastOfMost(int there) {
            for (int set = 0; set <= there; set++) {
                if ((set & ~there) == 0 && isApart(set) && sumOf(set) == mostOf(there)) {
                    return set;
                }
            }
            return 0;
        }

        /** Makes a row of a set without a clash, the earliest first. */
        void orderInto(Cells row, int set) {
            row.begin(0, 0);
            for (int h = 0; h < HOURS; h++) {
                for (int k = 0; k < many; k++) {
                    if ((set >> k & 1) != 0 && hour[k] == h) {
                        row.append(k);
                    }
                }
            }
        }

        int countOfKind(int ofKind) {
            int number = 0;
            for (int k = 0; k < many; k++) {
                if (isOf(kind[k], ofKind)) {
                    number++;
                }
            }
            return number;
        }

        /** Of these kinds, how many a pin is worth alike with this luck, where these are most. */
        int greatestPart(int k, int kinds, int withLuck) {
            int greatest = 0;
            for (int one = 0; one < KINDS; one++) {
                int part = 0;
                for (int other = 0; other < KINDS; other++) {
                    boolean both = (kinds >> one & 1) != 0 && (kinds >> other & 1) != 0;
                    if (both && valueAs(k, one, withLuck) == valueAs(k, other, withLuck)) {
                        part++;
                    }
                }
                greatest = Math.max(greatest, part);
            }
            return greatest;
        }
    }

    /** The street as the deeds have left it. */
    private static final class Street {
        final Pins pins = new Pins();
        final Deeds deeds = new Deeds();
        int place = 0;
        int held = 0;
        int swept = 0;
        // Where a pin lies, if it does: where it was told, or dropped last.
        final int[] lies = new int[PINS_MOST];

        Street() {
            deeds.done = 0;
        }

        int lying() {
            return pins.all() & ~held & ~swept;
        }

        int lyingHere() {
            int set = 0;
            for (int k = 0; k < pins.many; k++) {
                if (lies[k] == place) {
                    set |= 1 << k;
                }
            }
            return set & lying();
        }

        boolean hasRoomFor(int n) {
            return deeds.done + n <= DEEDS_MOST;
        }

        /** Does a deed that can be done, and writes it down. */
        void enact(int code) {
            if (deeds.done >= 0 && deeds.done < DEEDS_MOST) {
                deeds.codes[deeds.done] = code;
                deeds.done++;
                change(code);
            }
        }

        /** Leaves the first n deeds alone, by doing them anew from the start. */
        void goBackTo(int n) {
            place = 0;
            held = 0;
            swept = 0;
            for (int k = 0; k < pins.many; k++) {
                lies[k] = pins.place[k];
            }
            for (int i = 0; i < n && i < DEEDS_MOST; i++) {
                change(deeds.codes[i]);
            }
            deeds.done = n;
        }

        private void change(int code) {
            if (code == STEP_ON) {
                place++;
            } else if (code == STEP_BACK) {
                place--;
            } else if (code == SWEEP) {
                swept |= lyingHere();
            } else if (pins.has(code - PICK)) {
                held |= 1 << (code - PICK);
            } else if (pins.has(code - DROP)) {
                held &= ~(1 << (code - DROP));
                lies[code - DROP] = place;
            }
        }

        /** The deed that a number asks for. */
        int deedByLot(long number) {
            int k = pins.many > 0 ? (int) (number / 8 % pins.many) : 0;
            if ((held >> k & 1) != 0) {
                return DROP + k;
            }
            if ((lyingHere() >> k & 1) != 0) {
                return PICK + k;
            }
            boolean on = place == 0 || number % 2 == 0 && place != LAST_PLACE;
            return on ? STEP_ON : STEP_BACK;
        }

        int lowest(int set) {
            int low = LAST_PLACE;
            for (int k = 0; k < pins.many; k++) {
                if ((set >> k & 1) != 0) {
                    low = Math.min(low, lies[k]);
                }
            }
            return low;
        }

        int highest(int set) {
            int high = 0;
            for (int k = 0; k < pins.many; k++) {
                if ((set >> k & 1) != 0) {
                    high = Math.max(high, lies[k]);
                }
            }
            return high;
        }

        /** Steps from here by one place to another one. */
        int stepsBy(int via, int to) {
            return Math.abs(via - place) + Math.abs(to - via);
        }

        /** The fewest steps by the places of a set of pins that lie. */
        int stepsFor(int set) {
            if (set == 0) {
                return 0;
            }
            int low = lowest(set);
            int high = highest(set);
            return Math.min(stepsBy(low, high), stepsBy(high, low));
        }

        /** What pin() tells of a pin. */
        int tellPin(int k, int what) {
            if (!pins.has(k)) {
                return NONE;
            }
            switch (what) {
                case 0:
                    return pins.kind[k];
                case 1:
                    return (lying() >> k & 1) != 0 ? lies[k] : NONE;
                case 2:
                    return pins.hours[k];
                case 3:
                    return pins.length[k];
                case 4:
                    return pins.luck[k];
                case 5:
                    return pins.value[k];
                case 6:
                    return held >> k & 1;
                default:
                    return swept >> k & 1;
            }
        }
    }
}
