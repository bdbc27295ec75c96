import java.util.Arrays;

/** The edges of promises 1 to 7: a new object, rows. */
final class EdgesOfRows extends Edges {
    private static final int LEAST = Integer.MIN_VALUE, GREATEST = Integer.MAX_VALUE;

    static void all() {
        promise(1);
        sentence("No ROWS,", EdgesOfRows::newHasNoRows);
        sentence("TEXTS,", EdgesOfRows::newHasNoTexts);
        sentence("PINS.", EdgesOfRows::newHasNoPins);
        sentence("No ROWS, TEXTS, PINS.", EdgesOfRows::newToldNothing);
        sentence("No ROWS, TEXTS, PINS.", EdgesOfRows::newSharesNothing);
        promise(2);
        sentence("A ROW is there with n ints 0: n.", EdgesOfRows::rowOfEachSize);
        sentence("A ROW is there with n ints 0: n.", EdgesOfRows::rowAnew);
        sentence("BAD:", EdgesOfRows::rowThatIsNone);
        sentence("BAD: also n above 40;", EdgesOfRows::rowAboveForty);
        sentence("SIZE: below 0.", EdgesOfRows::rowBelowNought);
        sentence("BAD: also n above 40; SIZE: below 0.", EdgesOfRows::rowBadAheadOfSize);
        promise(3);
        sentence("Place i of a ROW is v: what it was, told by asked(): 1.", EdgesOfRows::layAtBothEnds);
        sentence("Place i of a ROW is v: what it was, told by asked(): 1.", EdgesOfRows::layAnyInt);
        sentence("BAD;", EdgesOfRows::layBad);
        sentence("NOTHING;", EdgesOfRows::layNothing);
        sentence("BEYOND.", EdgesOfRows::layBeyond);
        sentence("BAD; NOTHING; BEYOND.", EdgesOfRows::layInOrder);
        promise(4);
        sentence("Place i of a ROW, told by asked(): 1.", EdgesOfRows::atBothEnds);
        sentence("BAD;", EdgesOfRows::atBad);
        sentence("NOTHING;", EdgesOfRows::atNothing);
        sentence("BEYOND.", EdgesOfRows::atBeyond);
        sentence("BAD; NOTHING; BEYOND.", EdgesOfRows::atInOrder);
        promise(5);
        sentence("A ROW is missing: 1.", EdgesOfRows::tearEach);
        sentence("A ROW is missing: 1.", EdgesOfRows::tearAndMakeAgain);
        sentence("BAD;", EdgesOfRows::tearBad);
        sentence("NOTHING.", EdgesOfRows::tearNothing);
        copyAndMean();
    }

    private static void copyAndMean() {
        promise(6);
        sentence("n places of a ROW, from one on, come to those of another one", EdgesOfRows::copyToAnother);
        sentence("(perhaps itself) from one on, as if taken ahead: 1.", EdgesOfRows::copyToItself);
        sentence("BAD;", EdgesOfRows::copyBad);
        sentence("SIZE: n below 0;", EdgesOfRows::copySize);
        sentence("NOTHING: either;", EdgesOfRows::copyNothing);
        sentence("BEYOND: not so many there", EdgesOfRows::copyBeyond);
        sentence("(also with n 0, if i, j is below 0,", EdgesOfRows::copyNoneFromBelow);
        sentence("or above its size).", EdgesOfRows::copyNoneFromAbove);
        sentence("(also with n 0, if i, j is below 0, or above its size).", EdgesOfRows::copyNoneAtTheEnd);
        sentence("(In this order.)", EdgesOfRows::copyInOrder);
        promise(7);
        sentence("The mean of a ROW's ints,", EdgesOfRows::meanOfOneAndOfForty);
        sentence("The mean of a ROW's ints,", EdgesOfRows::meanWithoutWrap);
        sentence("cut, told by asked(): 1.", EdgesOfRows::meanCut);
        sentence("BAD;", EdgesOfRows::meanBad);
        sentence("NOTHING;", EdgesOfRows::meanNothing);
        sentence("NOUGHT.", EdgesOfRows::meanNought);
    }

    // ---- 1 a new object

    private static void newHasNoRows() {
        due("count(6)", new PinDuties().count(6), 0);
        for (int r = 0; r <= 5; r++) {
            final int row = r;
            nothing("tear(" + r + ")", PinDuties::new, x -> x.tear(row));
            nothing("at(" + r + ", 0)", PinDuties::new, x -> x.at(row, 0));
        }
    }

    private static void newHasNoTexts() {
        due("count(7)", new PinDuties().count(7), 0);
        for (int t = 0; t <= 3; t++) {
            final int text = t;
            nothing("fault(" + t + ")", PinDuties::new, x -> x.fault(text));
            nothing("put(" + t + ", 0, 112)", PinDuties::new, x -> x.put(text, 0, 112));
        }
    }

    private static void newHasNoPins() {
        PinDuties x = new PinDuties();
        for (int what : new int[] {0, 1, 2, 3, 4, 5, 8, 9, 10}) {
            due("count(" + what + ")", x.count(what), 0);
        }
        for (int k = 0; k <= 8; k++) {
            final int pin = k;
            bad("pin(" + k + ", 0)", PinDuties::new, y -> y.pin(pin, 0));
            bad("pick(" + k + ")", PinDuties::new, y -> y.pick(pin));
        }
        notNow("step(1)", PinDuties::new, y -> y.step(1));
        for (int k = 0; k <= 2; k++) {
            final int place = k;
            nothing("on(" + k + ")", PinDuties::new, y -> y.on(place));
        }
    }

    private static void newToldNothing() {
        PinDuties x = new PinDuties();
        due("asked()", x.asked(), 0);
        due("upper()", x.upper(), 0);
        due("lower()", x.lower(), 1);
        due("finding()", x.finding(), 0);
        for (int f = 1; f <= 5; f++) {
            due("findings(" + f + ")", x.findings(f), 0);
        }
    }

    private static void newSharesNothing() {
        PinDuties ahead = rich();
        PinDuties x = new PinDuties();
        rich();
        same("new ones beside others", x, new PinDuties());
        same("an older one beside new ones", ahead, rich());
    }

    // ---- 2 row

    private static void rowOfEachSize() {
        PinDuties x = new PinDuties();
        for (int n = 0; n <= 40; n++) {
            int r = n % 6;
            due("row(" + r + ", " + n + ")", x.row(r, n), n);
            if (n > 0) {
                told(x, "at(" + r + ", 0)", x.at(r, 0), 0);
                told(x, "at(" + r + ", " + (n - 1) + "), the last", x.at(r, n - 1), 0);
            }
            finds(x, "at(" + r + ", " + n + "), behind it", x.at(r, n), 2);
        }
        due("count(6)", x.count(6), 6);
    }

    private static void rowAnew() {
        PinDuties x = new PinDuties();
        fill(x, 5, 1, 2, 3, 4);
        due("row(5, 0), anew", x.row(5, 0), 0);
        places(x, 5);
        due("row(5, 4), anew", x.row(5, 4), 4);
        places(x, 5, 0, 0, 0, 0);
        fill(x, 5, 1, 2, 3, 4);
        due("row(5, 2), anew", x.row(5, 2), 2);
        places(x, 5, 0, 0);
        due("count(6)", x.count(6), 1);
        due("asked(), not told by row()", new PinDuties().asked(), 0);
    }

    private static void rowThatIsNone() {
        for (int r : outside(0, 5)) {
            bad("row(" + r + ", 1)", Edges::rich, x -> x.row(r, 1));
        }
    }

    private static void rowAboveForty() {
        for (int n : new int[] {41, 42, 60, 61, 296, GREATEST}) {
            bad("row(0, " + n + ")", Edges::rich, x -> x.row(0, n));
            bad("row(5, " + n + "), missing", Edges::rich, x -> x.row(5, n));
        }
    }

    private static void rowBelowNought() {
        for (int n : new int[] {-1, -2, -41, -256, LEAST}) {
            size("row(0, " + n + ")", Edges::rich, x -> x.row(0, n));
            size("row(5, " + n + "), missing", Edges::rich, x -> x.row(5, n));
        }
    }

    private static void rowBadAheadOfSize() {
        bad("row(6, -1)", Edges::rich, x -> x.row(6, -1));
        bad("row(-1, -1)", Edges::rich, x -> x.row(-1, -1));
        bad("row(-1, 41)", Edges::rich, x -> x.row(-1, 41));
    }

    // ---- 3 lay

    private static void layAtBothEnds() {
        PinDuties x = new PinDuties();
        x.row(5, 40);
        told(x, "lay(5, 0, 3)", x.lay(5, 0, 3), 0);
        told(x, "lay(5, 39, 4)", x.lay(5, 39, 4), 0);
        told(x, "lay(5, 0, 5)", x.lay(5, 0, 5), 3);
        told(x, "lay(5, 39, 6)", x.lay(5, 39, 6), 4);
        int[] want = new int[40];
        want[0] = 5;
        want[39] = 6;
        places(x, 5, want);
        fill(x, 0, 8);
        told(x, "lay(0, 0, 9), of one", x.lay(0, 0, 9), 8);
        places(x, 5, want);
    }

    private static void layAnyInt() {
        PinDuties x = new PinDuties();
        x.row(0, 1);
        int was = 0;
        for (int v : new int[] {-1, 127, 128, -129, 65536, LEAST, GREATEST, 0}) {
            told(x, "lay(0, 0, " + v + ")", x.lay(0, 0, v), was);
            was = v;
        }
    }

    private static void layBad() {
        for (int r : outside(0, 5)) {
            bad("lay(" + r + ", 0, 1)", Edges::rich, x -> x.lay(r, 0, 1));
        }
    }

    private static void layNothing() {
        nothing("lay(5, 0, 1)", Edges::rich, x -> x.lay(5, 0, 1));
        PinDuties x = rich();
        x.tear(0);
        finds(x, "lay(0, 0, 1), torn", x.lay(0, 0, 1), 1);
    }

    private static void layBeyond() {
        for (int i : outside(0, 2)) {
            beyond("lay(0, " + i + ", 1), of three", Edges::rich, x -> x.lay(0, i, 1));
        }
        for (int i : outside(0, 39)) {
            beyond("lay(2, " + i + ", 1), of forty", Edges::rich, x -> x.lay(2, i, 1));
        }
        for (int i : new int[] {-1, 0, 1}) {
            beyond("lay(1, " + i + ", 1), of none", Edges::rich, x -> x.lay(1, i, 1));
        }
    }

    private static void layInOrder() {
        bad("lay(6, -1, 1)", Edges::rich, x -> x.lay(6, -1, 1));
        nothing("lay(5, -1, 1)", Edges::rich, x -> x.lay(5, -1, 1));
        nothing("lay(5, 40, 1)", Edges::rich, x -> x.lay(5, 40, 1));
    }

    // ---- 4 at

    private static void atBothEnds() {
        PinDuties x = rich();
        told(x, "at(0, 0)", x.at(0, 0), 5);
        told(x, "at(0, 2)", x.at(0, 2), 9);
        told(x, "at(2, 0)", x.at(2, 0), 0);
        told(x, "at(2, 39)", x.at(2, 39), 4);
        told(x, "at(2, 39), again", x.at(2, 39), 4);
        aside("at(2, 39)", Edges::rich, y -> y.at(2, 39));
    }

    private static void atBad() {
        for (int r : outside(0, 5)) {
            bad("at(" + r + ", 0)", Edges::rich, x -> x.at(r, 0));
        }
    }

    private static void atNothing() {
        nothing("at(5, 0)", Edges::rich, x -> x.at(5, 0));
        PinDuties x = rich();
        x.tear(0);
        finds(x, "at(0, 0), torn", x.at(0, 0), 1);
    }

    private static void atBeyond() {
        for (int i : outside(0, 2)) {
            beyond("at(0, " + i + "), of three", Edges::rich, x -> x.at(0, i));
        }
        for (int i : outside(0, 39)) {
            beyond("at(2, " + i + "), of forty", Edges::rich, x -> x.at(2, i));
        }
        for (int i : new int[] {-1, 0, 1}) {
            beyond("at(1, " + i + "), of none", Edges::rich, x -> x.at(1, i));
        }
    }

    private static void atInOrder() {
        bad("at(6, -1)", Edges::rich, x -> x.at(6, -1));
        nothing("at(5, -1)", Edges::rich, x -> x.at(5, -1));
        nothing("at(5, 40)", Edges::rich, x -> x.at(5, 40));
    }

    // ---- 5 tear

    private static void tearEach() {
        PinDuties x = new PinDuties();
        for (int r = 0; r <= 5; r++) {
            x.row(r, 8 * r);
        }
        for (int r = 0; r <= 5; r++) {
            due("tear(" + r + ")", x.tear(r), 1);
            finds(x, "at(" + r + ", 0), torn", x.at(r, 0), 1);
            due("count(6)", x.count(6), 5 - r);
        }
        same("tear() of all", x, new PinDuties());
    }

    private static void tearAndMakeAgain() {
        PinDuties x = rich();
        due("tear(0)", x.tear(0), 1);
        due("row(0, 3)", x.row(0, 3), 3);
        places(x, 0, 0, 0, 0);
        due("tear(1), of none", x.tear(1), 1);
        due("count(6)", x.count(6), 4);
    }

    private static void tearBad() {
        for (int r : outside(0, 5)) {
            bad("tear(" + r + ")", Edges::rich, x -> x.tear(r));
        }
    }

    private static void tearNothing() {
        nothing("tear(5)", Edges::rich, x -> x.tear(5));
        PinDuties x = rich();
        x.tear(0);
        finds(x, "tear(0), torn", x.tear(0), 1);
    }

    // ---- 6 copy

    private static PinDuties two() {
        PinDuties x = new PinDuties();
        fill(x, 0, 1, 2, 3, 4, 5);
        fill(x, 5, 9, 8, 7);
        return x;
    }

    private static void copyToAnother() {
        PinDuties x = two();
        due("copy(0, 0, 5, 0, 3)", x.copy(0, 0, 5, 0, 3), 1);
        places(x, 5, 1, 2, 3);
        due("copy(0, 4, 5, 2, 1), the last to the last", x.copy(0, 4, 5, 2, 1), 1);
        places(x, 5, 1, 2, 5);
        due("copy(5, 0, 0, 2, 3), all to the end", x.copy(5, 0, 0, 2, 3), 1);
        places(x, 0, 1, 2, 1, 2, 5);
        due("copy(0, 1, 5, 1, 0), none", x.copy(0, 1, 5, 1, 0), 1);
        places(x, 5, 1, 2, 5);
        x.row(1, 40);
        x.row(2, 40);
        x.lay(1, 0, LEAST);
        x.lay(1, 39, GREATEST);
        due("copy(1, 0, 2, 0, 40)", x.copy(1, 0, 2, 0, 40), 1);
        told(x, "at(2, 0)", x.at(2, 0), LEAST);
        told(x, "at(2, 39)", x.at(2, 39), GREATEST);
        told(x, "at(1, 0), as it was", x.at(1, 0), LEAST);
    }

    private static void copyToItself() {
        for (int i = 0; i <= 5; i++) {
            for (int j = 0; j <= 5; j++) {
                for (int n = 0; n <= 5 - Math.max(i, j); n++) {
                    PinDuties x = two();
                    int[] ahead = {1, 2, 3, 4, 5};
                    int[] want = ahead.clone();
                    for (int m = 0; m < n; m++) {
                        want[j + m] = ahead[i + m];
                    }
                    due("copy(0, " + i + ", 0, " + j + ", " + n + ")", x.copy(0, i, 0, j, n), 1);
                    places(x, 0, want);
                }
            }
        }
    }

    private static void copyBad() {
        for (int r : outside(0, 5)) {
            bad("copy(" + r + ", 0, 0, 0, 1)", Edges::rich, x -> x.copy(r, 0, 0, 0, 1));
            bad("copy(0, 0, " + r + ", 0, 1)", Edges::rich, x -> x.copy(0, 0, r, 0, 1));
        }
    }

    private static void copySize() {
        for (int n : new int[] {-1, -2, -40, LEAST}) {
            size("copy(0, 0, 2, 0, " + n + ")", Edges::rich, x -> x.copy(0, 0, 2, 0, n));
            size("copy(0, 2, 0, 2, " + n + ")", Edges::rich, x -> x.copy(0, 2, 0, 2, n));
        }
    }

    private static void copyNothing() {
        nothing("copy(5, 0, 0, 0, 1)", Edges::rich, x -> x.copy(5, 0, 0, 0, 1));
        nothing("copy(0, 0, 5, 0, 1)", Edges::rich, x -> x.copy(0, 0, 5, 0, 1));
        nothing("copy(5, 0, 5, 0, 1)", Edges::rich, x -> x.copy(5, 0, 5, 0, 1));
        nothing("copy(5, 0, 0, 0, 0)", Edges::rich, x -> x.copy(5, 0, 0, 0, 0));
        nothing("copy(0, 0, 5, 0, 0)", Edges::rich, x -> x.copy(0, 0, 5, 0, 0));
    }

    // Row 0 is of three, row 1 of none, row 2 of forty.
    private static void copyBeyond() {
        int[][] from = {{0, 4}, {1, 3}, {2, 2}, {3, 1}, {0, GREATEST}, {3, GREATEST}, {-1, 1}, {-1, 4}, {4, 1},
            {GREATEST, 1}, {GREATEST, GREATEST}, {LEAST, 1}, {LEAST, GREATEST}};
        for (int[] f : from) {
            String told = f[0] + " on, " + f[1];
            beyond("copy from " + told, Edges::rich, x -> x.copy(0, f[0], 2, 0, f[1]));
            beyond("copy to " + told, Edges::rich, x -> x.copy(2, 0, 0, f[0], f[1]));
            beyond("copy within itself from " + told, Edges::rich, x -> x.copy(0, f[0], 0, 0, f[1]));
        }
        beyond("copy of a row of none", Edges::rich, x -> x.copy(1, 0, 2, 0, 1));
        beyond("copy to a row of none", Edges::rich, x -> x.copy(2, 0, 1, 0, 1));
        beyond("copy of 41", Edges::rich, x -> x.copy(2, 0, 2, 0, 41));
    }

    private static void copyNoneFromBelow() {
        for (int i : new int[] {-1, -2, LEAST}) {
            beyond("copy(0, " + i + ", 2, 0, 0)", Edges::rich, x -> x.copy(0, i, 2, 0, 0));
            beyond("copy(0, 0, 2, " + i + ", 0)", Edges::rich, x -> x.copy(0, 0, 2, i, 0));
            beyond("copy(1, " + i + ", 2, 0, 0), of none", Edges::rich, x -> x.copy(1, i, 2, 0, 0));
        }
    }

    private static void copyNoneFromAbove() {
        for (int i : new int[] {4, 5, 40, GREATEST}) {
            beyond("copy(0, " + i + ", 2, 0, 0)", Edges::rich, x -> x.copy(0, i, 2, 0, 0));
            beyond("copy(2, 0, 0, " + i + ", 0)", Edges::rich, x -> x.copy(2, 0, 0, i, 0));
        }
        beyond("copy(1, 1, 2, 0, 0), of none", Edges::rich, x -> x.copy(1, 1, 2, 0, 0));
        beyond("copy(2, 0, 1, 1, 0), to none", Edges::rich, x -> x.copy(2, 0, 1, 1, 0));
        beyond("copy(2, 41, 0, 0, 0), of forty", Edges::rich, x -> x.copy(2, 41, 0, 0, 0));
    }

    private static void copyNoneAtTheEnd() {
        aside("copy(0, 3, 2, 40, 0)", Edges::rich, x -> x.copy(0, 3, 2, 40, 0));
        aside("copy(1, 0, 1, 0, 0), of none", Edges::rich, x -> x.copy(1, 0, 1, 0, 0));
        due("copy(0, 3, 2, 40, 0)", rich().copy(0, 3, 2, 40, 0), 1);
        due("copy(1, 0, 1, 0, 0)", rich().copy(1, 0, 1, 0, 0), 1);
    }

    private static void copyInOrder() {
        bad("copy: BAD ahead of SIZE, NOTHING, BEYOND", Edges::rich, x -> x.copy(6, -1, 5, -1, -1));
        bad("copy: BAD (to) ahead of SIZE, NOTHING, BEYOND", Edges::rich, x -> x.copy(5, -1, 6, -1, -1));
        size("copy: SIZE ahead of NOTHING, BEYOND", Edges::rich, x -> x.copy(5, -1, 5, -1, -1));
        size("copy: SIZE ahead of BEYOND", Edges::rich, x -> x.copy(0, 4, 0, -1, -1));
        nothing("copy: NOTHING ahead of BEYOND", Edges::rich, x -> x.copy(5, -1, 0, 4, 9));
        nothing("copy: NOTHING (to) ahead of BEYOND", Edges::rich, x -> x.copy(0, 4, 5, -1, 9));
    }

    // ---- 7 mean

    private static void meanOf(int want, int... values) {
        PinDuties x = new PinDuties();
        fill(x, 5, values);
        told(x, "mean of " + Arrays.toString(values), x.mean(5), want);
    }

    private static int[] forty(int v) {
        int[] values = new int[40];
        Arrays.fill(values, v);
        return values;
    }

    private static void meanOfOneAndOfForty() {
        meanOf(-7, -7);
        meanOf(0, 0);
        meanOf(3, forty(3));
        int[] last = new int[40];
        last[39] = 80;
        meanOf(2, last);
        aside("mean(0)", Edges::rich, x -> x.mean(0));
        PinDuties x = new PinDuties();
        fill(x, 0, 8, 8, 80, 80);
        x.row(0, 2);
        told(x, "mean(0): what was behind it does not count", x.mean(0), 0);
        fill(x, 0, 6, 8);
        told(x, "mean(0): what was behind it does not count", x.mean(0), 7);
    }

    private static void meanWithoutWrap() {
        meanOf(GREATEST, GREATEST, GREATEST);
        meanOf(LEAST, LEAST, LEAST);
        meanOf(GREATEST, forty(GREATEST));
        meanOf(LEAST, forty(LEAST));
        meanOf(0, LEAST, GREATEST);
        meanOf(GREATEST - 1, GREATEST, GREATEST - 1);
        meanOf(LEAST + 1, LEAST, LEAST + 1);
    }

    private static void meanCut() {
        meanOf(1, 1, 2);
        meanOf(0, 0, 1);
        meanOf(2, 2, 2, 4);
        meanOf(2, 3, 2, 3);
        meanOf(-1, -1, -2);
        meanOf(0, 0, -1);
        meanOf(0, 1, -2, -1);
        meanOf(-2, -3, -2, -3);
    }

    private static void meanBad() {
        for (int r : outside(0, 5)) {
            bad("mean(" + r + ")", Edges::rich, x -> x.mean(r));
        }
    }

    private static void meanNothing() {
        nothing("mean(5)", Edges::rich, x -> x.mean(5));
        nothing("mean(0), of a new object", PinDuties::new, x -> x.mean(0));
    }

    private static void meanNought() {
        nought("mean(1)", Edges::rich, x -> x.mean(1));
    }
}
