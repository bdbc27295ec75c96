import java.util.List;
import java.util.Random;

/** Long runs of calls drawn by a fixed seed, the class held against Model after each of them. */
public final class ModelTest {
    private static final int RUNS = 1500;
    // What an object is used for at most, and what one turn of a run uses at most, a street typed in.
    private static final int CALLS = 512, TURN = 75;
    private static final String[] NAMES = {"row", "lay", "at", "tear", "copy", "mean", "text", "put", "fault", "street",
        "pin", "mark", "worth", "step", "pick", "drop", "sweep", "undo", "keep", "on", "busy", "clashes", "least",
        "best", "walk", "within", "whose", "kinds", "test", "lucks", "duel", "odds", "mid", "lots", "count",
        "findings"};
    // How often each of the calls above is drawn, of the sum of these.
    private static final int[] SHARES = {4, 10, 4, 1, 4, 3, 2, 6, 3, 2, 5, 6, 4, 14, 14, 8, 2, 4, 4, 4, 5, 5, 6, 6, 8,
        6, 6, 6, 6, 4, 2, 3, 2, 4, 2, 2};

    private final Random random;
    private final PinDuties x = new PinDuties();
    private final Model y = new Model();
    // The rows filled last for kinds() and for whose(), and the pin that the first of them tells of.
    private final int[] filled = new int[2];
    private int filledFor = 0;
    // How many calls the object has been used for: all of them count, those that look alone, too.
    private int used = 0;
    private final StringBuilder told = new StringBuilder();

    private ModelTest(int run) {
        random = new Random(run);
    }

    public static void main(String[] args) {
        for (int run = 0; run < RUNS; run++) {
            new ModelTest(run).go(run);
        }
        Check.end();
    }

    // Every ninth run starts without a street.
    private void go(int run) {
        if (run % 9 != 0) {
            typeStreet();
        }
        for (int turn = 1; used + TURN <= CALLS; turn++) {
            if (random.nextInt(120) == 0) {
                typeStreet();
            } else if (random.nextInt(25) == 0) {
                fillRow();
            } else {
                int call = draw();
                int[] a = arguments(call);
                same(run, turn, call, a);
            }
            if (turn % 6 == 0) {
                due("run " + run + ", turn " + turn + ": digest()", x.digest(), y.digest());
            }
        }
        due("run " + run + ", at its end: digest()", x.digest(), y.digest());
        for (int f = 1; f <= 5; f++) {
            due("run " + run + ", at its end: findings(" + f + ")", x.findings(f), y.findings(f));
        }
    }

    private void due(String call, long got, long want) {
        used++;
        Check.due(call, got, want);
    }

    private void same(int run, int turn, int call, int[] a) {
        told.setLength(0);
        told.append("run ").append(run).append(", turn ").append(turn).append(": ").append(NAMES[call]).append('(');
        for (int i = 0; i < a.length; i++) {
            told.append(i == 0 ? "" : ", ").append(a[i]);
        }
        told.append(')');
        long got = ask(call, a);
        due(told.toString(), got, model(call, a));
        due(told + ", then asked()", x.asked(), y.asked());
        if (NAMES[call].equals("odds") || NAMES[call].equals("mid") || turn % 20 == 0) {
            due(told + ", then upper()", x.upper(), y.upper());
            due(told + ", then lower()", x.lower(), y.lower());
        }
        if (got == PinDuties.FINDING || turn % 20 == 0) {
            due(told + ", then finding()", x.finding(), y.finding());
        }
    }

    private int draw() {
        int sum = 0;
        for (int share : SHARES) {
            sum += share;
        }
        int at = random.nextInt(sum);
        int call = 0;
        while (at >= SHARES[call]) {
            at -= SHARES[call];
            call++;
        }
        return call;
    }

    // A number near what is told, seldom any int at all.
    private int near(int low, int high) {
        int odd = random.nextInt(40);
        if (odd == 0) {
            return random.nextInt();
        }
        if (odd == 1) {
            return random.nextBoolean() ? Integer.MIN_VALUE : Integer.MAX_VALUE;
        }
        if (odd == 2) {
            return random.nextBoolean() ? low - 1 : high + 1;
        }
        return low + random.nextInt(high - low + 1);
    }

    private int someRow() {
        return near(0, 5);
    }

    private int somePin() {
        return near(0, Math.max(0, y.count(0) - 1));
    }

    /** A pin that a set told by count(what) holds, if there is one. */
    private int pinOf(int what) {
        int k = somePin();
        for (int i = 0; i < 12 && k >= 0 && k < 8 && (y.count(what) >> k & 1) == 0; i++) {
            k = somePin();
        }
        return k;
    }

    // Mostly one that lies here, so that many are held.
    private int pinToPick() {
        int k = pinOf(4);
        for (int i = 0; i < 6 && k >= 0 && k < y.pins.size() && y.where(k) != y.count(1); i++) {
            k = pinOf(4);
        }
        return k;
    }

    // Mostly one of the rows filled last to be read by this call.
    private int rowToRead(int of) {
        return random.nextInt(5) == 0 ? someRow() : filled[of];
    }

    private int someSet() {
        int bits = y.count(4);
        return random.nextInt(4) == 0 ? near(0, (1 << y.count(0)) - 1) : bits & random.nextInt(256);
    }

    private int[] arguments(int call) {
        switch (NAMES[call]) {
            case "row": return new int[] {someRow(), near(0, random.nextInt(3) == 0 ? 40 : 4)};
            case "lay": return new int[] {someRow(), near(0, 5), random.nextBoolean() ? near(-20, 60) : near(0, 9)};
            case "at": return new int[] {someRow(), near(0, 5)};
            case "tear": case "mean": case "best": return new int[] {someRow()};
            case "whose": return new int[] {rowToRead(1)};
            case "copy": return new int[] {someRow(), near(0, 3), someRow(), near(0, 3), near(0, 4)};
            case "text": return new int[] {near(0, 3), near(0, 60)};
            case "put": return new int[] {near(0, 3), near(0, 50), putSign()};
            case "fault": case "street": return new int[] {near(0, 3)};
            case "pin": return new int[] {somePin(), near(0, 7)};
            case "mark": return new int[] {somePin(), near(1, 5)};
            case "worth": return new int[] {somePin(), near(0, 9)};
            case "step": return new int[] {random.nextInt(9) == 0 ? near(-1, 1) : random.nextInt(3) == 0 ? -1 : 1};
            case "pick": return new int[] {pinToPick()};
            case "drop": return new int[] {pinOf(3)};
            case "undo": return new int[] {near(0, y.count(2))};
            case "keep": case "on": return new int[] {near(0, 2)};
            case "walk": return new int[] {someSet()};
            case "within": return new int[] {near(0, 20)};
            case "kinds": case "test": return new int[] {random.nextInt(3) == 0 ? somePin() : filledFor, rowToRead(0)};
            case "lucks": return new int[] {somePin(), near(-20, 40)};
            case "duel": return new int[] {near(0, random.nextInt(5) == 0 ? 4 : 3)};
            case "odds": return new int[] {near(0, random.nextInt(9) == 0 ? 200 : 40), near(0, 12)};
            case "mid": return new int[] {near(0, 12)};
            case "lots": return new int[] {near(1, random.nextInt(3) == 0 ? 20 : 5), near(1, 2147483645)};
            case "count": return new int[] {near(0, 10)};
            case "findings": return new int[] {near(1, 5)};
            default: return new int[0];
        }
    }

    private int putSign() {
        String likely = "pclmbw0123456789 x";
        return random.nextInt(20) == 0 ? random.nextInt() : likely.charAt(random.nextInt(likely.length()));
    }

    private String signs() {
        StringBuilder signs = new StringBuilder();
        int many = 1 + random.nextInt(8);
        int places = random.nextBoolean() ? 10 : 3;
        int hours = random.nextBoolean() ? 10 : 6;
        boolean blanks = random.nextBoolean();
        for (int k = 0; k < many; k++) {
            signs.append(blanks && signs.length() < 5 * k + 12 ? " ".repeat(random.nextInt(3)) : "");
            signs.append("pclmbwpmb".charAt(random.nextInt(9)));
            signs.append(random.nextInt(places)).append(random.nextInt(hours));
            signs.append(1 + random.nextInt(4)).append(random.nextInt(10));
        }
        if (random.nextInt(12) == 0) {
            signs.append("p0010 x".charAt(random.nextInt(7)));
        }
        return signs.toString();
    }

    private void typeStreet() {
        String signs = signs();
        int t = random.nextInt(4);
        due("text", x.text(t, signs.length()), y.text(t, signs.length()));
        for (int i = 0; i < signs.length(); i++) {
            due("put", x.put(t, i, signs.charAt(i)), y.put(t, i, signs.charAt(i)));
        }
        due("fault of " + signs, x.fault(t), y.fault(t));
        due("street of " + signs, x.street(t), y.street(t));
    }

    // A row that whose(), kinds() or test() can read.
    private void fillRow() {
        int of = random.nextInt(2);
        filled[of] = random.nextInt(6);
        int[] values = of == 1 ? hours() : pairs();
        due("row", x.row(filled[of], values.length), y.row(filled[of], values.length));
        for (int i = 0; i < values.length; i++) {
            due("lay", x.lay(filled[of], i, values[i]), y.lay(filled[of], i, values[i]));
        }
    }

    // The hours of some set of pins, some of them not told, seldom one of them wrong.
    private int[] hours() {
        int busy = 0;
        for (int k = 0; k < y.pins.size(); k++) {
            for (int h : random.nextInt(3) == 0 ? y.pins.get(k).hours() : List.<Integer>of()) {
                busy |= 1 << h;
            }
        }
        int[] values = new int[13];
        int untold = random.nextInt(4);
        for (int i = 0; i < 13; i++) {
            values[i] = random.nextInt(4) < untold ? -9 : busy >> i & 1;
        }
        if (random.nextInt(5) == 0) {
            values[random.nextInt(13)] = near(-9, 2);
        }
        return values;
    }

    // Lucks of some pin, with what it would be worth as some kind, seldom one of them wrong.
    private int[] pairs() {
        filledFor = y.pins.isEmpty() ? 0 : random.nextInt(y.pins.size());
        int[] values = new int[2 * random.nextInt(4)];
        char kind = "pclmbw".charAt(random.nextInt(6));
        for (int i = 0; i < values.length; i += 2) {
            values[i] = random.nextInt(10);
            if (!y.pins.isEmpty()) {
                values[i + 1] = y.pins.get(filledFor).as(kind).lucky(values[i]).worth();
            }
        }
        if (values.length > 0 && random.nextInt(6) == 0) {
            values[random.nextInt(values.length)] = near(-21, 61);
        }
        return values;
    }

    private long ask(int call, int[] a) {
        switch (NAMES[call]) {
            case "row": return x.row(a[0], a[1]);
            case "lay": return x.lay(a[0], a[1], a[2]);
            case "at": return x.at(a[0], a[1]);
            case "tear": return x.tear(a[0]);
            case "copy": return x.copy(a[0], a[1], a[2], a[3], a[4]);
            case "mean": return x.mean(a[0]);
            case "text": return x.text(a[0], a[1]);
            case "put": return x.put(a[0], a[1], a[2]);
            case "fault": return x.fault(a[0]);
            case "street": return x.street(a[0]);
            case "pin": return x.pin(a[0], a[1]);
            case "mark": return x.mark(a[0], a[1]);
            case "worth": return x.worth(a[0], a[1]);
            case "step": return x.step(a[0]);
            case "pick": return x.pick(a[0]);
            case "drop": return x.drop(a[0]);
            case "sweep": return x.sweep();
            case "undo": return x.undo(a[0]);
            case "keep": return x.keep(a[0]);
            case "on": return x.on(a[0]);
            case "busy": return x.busy();
            case "clashes": return x.clashes();
            case "least": return x.least();
            case "best": return x.best(a[0]);
            case "walk": return x.walk(a[0]);
            case "within": return x.within(a[0]);
            case "whose": return x.whose(a[0]);
            case "kinds": return x.kinds(a[0], a[1]);
            case "test": return x.test(a[0], a[1]);
            case "lucks": return x.lucks(a[0], a[1]);
            case "duel": return x.duel(a[0]);
            case "odds": return x.odds(a[0], a[1]);
            case "mid": return x.mid(a[0]);
            case "lots": return x.lots(a[0], a[1]);
            case "count": return x.count(a[0]);
            case "findings": return x.findings(a[0]);
            default: return 0;
        }
    }

    private long model(int call, int[] a) {
        switch (NAMES[call]) {
            case "row": return y.row(a[0], a[1]);
            case "lay": return y.lay(a[0], a[1], a[2]);
            case "at": return y.at(a[0], a[1]);
            case "tear": return y.tear(a[0]);
            case "copy": return y.copy(a[0], a[1], a[2], a[3], a[4]);
            case "mean": return y.mean(a[0]);
            case "text": return y.text(a[0], a[1]);
            case "put": return y.put(a[0], a[1], a[2]);
            case "fault": return y.fault(a[0]);
            case "street": return y.street(a[0]);
            case "pin": return y.pin(a[0], a[1]);
            case "mark": return y.mark(a[0], a[1]);
            case "worth": return y.worth(a[0], a[1]);
            case "step": return y.step(a[0]);
            case "pick": return y.pick(a[0]);
            case "drop": return y.drop(a[0]);
            case "sweep": return y.sweep();
            case "undo": return y.undo(a[0]);
            case "keep": return y.keep(a[0]);
            case "on": return y.on(a[0]);
            case "busy": return y.busy();
            case "clashes": return y.clashes();
            case "least": return y.least();
            case "best": return y.best(a[0]);
            case "walk": return y.walk(a[0]);
            case "within": return y.within(a[0]);
            case "whose": return y.whose(a[0]);
            case "kinds": return y.kinds(a[0], a[1]);
            case "test": return y.test(a[0], a[1]);
            case "lucks": return y.lucks(a[0], a[1]);
            case "duel": return y.duel(a[0]);
            case "odds": return y.odds(a[0], a[1]);
            case "mid": return y.mid(a[0]);
            case "lots": return y.lots(a[0], a[1]);
            case "count": return y.count(a[0]);
            case "findings": return y.findings(a[0]);
            default: return 0;
        }
    }
}
