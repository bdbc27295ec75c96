import java.util.List;
import java.util.function.ToLongFunction;

/** The edges of promises 36 to 42: what is told. */
final class EdgesOfTold extends Edges {
    static void all() {
        promise(36);
        sentence("What the latest lay(), at(), mean(), pin(), worth(), busy(), clashes(), least(), best(), walk(), "
            + "within(), whose(), test()", EdgesOfTold::askedOfEachCall);
        sentence("What the latest lay(), at(), mean(), pin(), worth(), busy(), clashes(), least(), best(), walk(), "
            + "within(), whose(), test()", EdgesOfTold::askedOfNoOtherCall);
        sentence("that was not refused", EdgesOfTold::askedNotOfRefused);
        sentence("(nor answered NONE) told;", EdgesOfTold::askedNotOfNone);
        sentence("0 before.", EdgesOfTold::askedBefore);
        promise(37);
        sentence("The upper number that was told last;", EdgesOfTold::fractionToldLast);
        sentence("0 before.", EdgesOfTold::upperBefore);
        promise(38);
        sentence("Its lower number;", EdgesOfTold::fractionToldLast);
        sentence("1 before.", EdgesOfTold::lowerBefore);
        counts();
        findingsAndDigest();
    }

    private static void counts() {
        promise(39);
        sentence("0 PINS,", EdgesOfTold::countPins);
        sentence("1 the PLACE,", EdgesOfTold::countPlace);
        sentence("2 DEEDS,", EdgesOfTold::countDeeds);
        sentence("3 PINS that are HELD (bits), 4 that lie (bits), 5 that were SWEPT (bits),", EdgesOfTold::countSets);
        sentence("6 ROWS,", EdgesOfTold::countRows);
        sentence("7 TEXTS that are there,", EdgesOfTold::countTexts);
        sentence("8 kept STREETS,", EdgesOfTold::countKept);
        sentence("9 COLD ones (WRITS, too),", EdgesOfTold::countCold);
        sentence("10 LUNCHES (BRIDES, too;", EdgesOfTold::countLunches);
        sentence("of 9, 10 HELD and SWEPT ones, too).", EdgesOfTold::countHeldAndSwept);
        sentence("BAD.", EdgesOfTold::countBad);
    }

    private static void findingsAndDigest() {
        promise(40);
        sentence("The latest FINDING", EdgesOfTold::findingLatest);
        sentence("(0 before any).", EdgesOfTold::findingBefore);
        promise(41);
        sentence("How often a FINDING (1 .. 5) was answered.", EdgesOfTold::findingsOfEach);
        sentence("BAD.", EdgesOfTold::findingsBad);
        promise(42);
        sentence("h = 17; then h = 31 h + v for each v", EdgesOfTold::digestOfANewObject);
        sentence("(of a call that tells by asked(): what it tells, not the 1 that it answers; asked() stays):",
            EdgesOfTold::digestAside);
        sentence("count() 0 to 10; of each PIN pin() 0 to 7;", EdgesOfTold::digestOfAStreet);
        sentence("of each kept STREET how many DEEDS (-1: missing);", EdgesOfTold::digestOfKept);
        sentence("of each ROW its size (-1: missing) and places,", EdgesOfTold::digestOfRows);
        sentence("of each TEXT likewise.", EdgesOfTold::digestOfTexts);
        sentence("h = 17; then h = 31 h + v for each v", EdgesOfTold::digestWrapsAround);
    }

    // ---- 36 asked

    // In rich() asked() is -7.
    private static void asks(String call, ToLongFunction<PinDuties> f, int want) {
        PinDuties x = rich();
        due(call + ", not refused (1: so)", f.applyAsLong(x) >= 0 ? 1 : 0, 1);
        due(call + ", then asked()", x.asked(), want);
        due(call + ", then asked() again", x.asked(), want);
    }

    private static void askedOfEachCall() {
        asks("lay(0, 2, 1)", x -> x.lay(0, 2, 1), 9);
        asks("at(0, 0)", x -> x.at(0, 0), 5);
        asks("mean(0)", x -> x.mean(0), 2);
        asks("pin(4, 5)", x -> x.pin(4, 5), 18);
        asks("worth(5, 0)", x -> x.worth(5, 0), -12);
        asks("busy()", x -> x.busy(), 0);
        asks("clashes()", x -> x.clashes(), 8);
        asks("least()", x -> x.least(), 0);
        asks("best(5)", x -> x.best(5), 0x10);
        asks("walk(32)", x -> x.walk(32), 3);
        asks("within(1)", x -> x.within(1), 1);
        asks("whose(3)", x -> x.whose(3), 0);
        asks("test(0, 1)", x -> x.test(0, 1), 2);
        PinDuties x = rich();
        pick(x, 4);
        both(x, "busy(), then asked()", x.busy(), 0x78, 0x30);
        both(x, "least(), then asked()", x.least(), 1, 4);
    }

    private static void askedOfNoOtherCall() {
        asks("row(5, 2)", x -> x.row(5, 2), -7);
        asks("tear(0)", x -> x.tear(0), -7);
        asks("copy(0, 0, 2, 0, 3)", x -> x.copy(0, 0, 2, 0, 3), -7);
        asks("text(3, 2)", x -> x.text(3, 2), -7);
        asks("put(0, 0, 32)", x -> x.put(0, 0, 32), -7);
        asks("fault(1)", x -> x.fault(1), -7);
        asks("street(0)", x -> x.street(0), -7);
        asks("mark(4, 4)", x -> x.mark(4, 4), -7);
        asks("step(1)", x -> x.step(1), -7);
        asks("pick(4)", x -> x.pick(4), -7);
        asks("drop(2)", x -> x.drop(2), -7);
        asks("sweep()", x -> x.sweep(), -7);
        asks("undo(3)", x -> x.undo(3), -7);
        asks("keep(1)", x -> x.keep(1), -7);
        asks("on(0)", x -> x.on(0), -7);
        asks("kinds(0, 1)", x -> x.kinds(0, 1), -7);
        asks("lucks(0, 8)", x -> x.lucks(0, 8), -7);
        asks("duel(3)", x -> x.duel(3), -7);
        asks("odds(9, 4)", x -> x.odds(9, 4), -7);
        asks("mid(4)", x -> x.mid(4), -7);
        asks("lots(3, 4)", x -> x.lots(3, 4), -7);
        asks("upper()", x -> x.upper(), -7);
        asks("lower()", x -> x.lower(), -7);
        asks("count(2)", x -> x.count(2), -7);
        asks("finding()", x -> x.finding(), -7);
        asks("findings(1)", x -> x.findings(1), -7);
        asks("digest()", x -> x.digest() * 0, -7);
    }

    private static void askedNotOfRefused() {
        beyond("lay(0, 3, 1)", Edges::rich, x -> x.lay(0, 3, 1));
        nothing("at(5, 0)", Edges::rich, x -> x.at(5, 0));
        nought("mean(1)", Edges::rich, x -> x.mean(1));
        bad("pin(6, 0)", Edges::rich, x -> x.pin(6, 0));
        bad("worth(0, 10)", Edges::rich, x -> x.worth(0, 10));
        bad("best(6)", Edges::rich, x -> x.best(6));
        notNow("walk(4)", Edges::rich, x -> x.walk(4));
        bad("within(21)", Edges::rich, x -> x.within(21));
        size("whose(0)", Edges::rich, x -> x.whose(0));
        size("test(0, 0)", Edges::rich, x -> x.test(0, 0));
        notNow("best(0), no pins", EdgesOfTold::toldAlone, x -> x.best(0));
        notNow("within(0), no pins", EdgesOfTold::toldAlone, x -> x.within(0));
        notNow("whose(0), no pins", EdgesOfTold::toldAlone, x -> x.whose(0));
    }

    private static PinDuties toldAlone() {
        PinDuties x = new PinDuties();
        fill(x, 0, 6);
        x.at(0, 0);
        return x;
    }

    private static void askedNotOfNone() {
        none("whose(5)", () -> {
            PinDuties x = rich();
            fill(x, 5, 0, 0, 0, 0, 0, 0, 0, 0, 0, 0, 0, 0, 1);
            x.at(0, 2);
            return x;
        }, x -> x.whose(5));
        none("test(4, 5)", () -> {
            PinDuties x = rich();
            fill(x, 5, 3, 50);
            x.at(0, 2);
            return x;
        }, x -> x.test(4, 5));
        none("fault(0)", Edges::rich, x -> x.fault(0));
        PinDuties x = rich();
        told(x, "pin(2, 1): -9 told is no refusal", x.pin(2, 1), -9);
    }

    private static void askedBefore() {
        PinDuties x = new PinDuties();
        due("asked(), new", x.asked(), 0);
        x.at(0, 0);
        x.row(0, 2);
        x.at(0, 2);
        x.pin(0, 0);
        due("asked(), all refused", x.asked(), 0);
    }

    // ---- 37, 38 upper, lower

    private static void fractionToldLast() {
        PinDuties x = street("p0015p9113");
        chance(x, "odds(8, 3)", x.odds(8, 3), 9, 16);
        chance(x, "mid(4)", x.mid(4), 16, 3);
        chance(x, "odds(1, 12)", x.odds(1, 12), 0, 1);
        chance(x, "mid(0)", x.mid(0), 8, 1);
        chance(x, "odds(5, 3)", x.odds(5, 3), 3, 4);
        fill(x, 0, 7, 8);
        x.mean(0);
        x.best(1);
        x.undo(0);
        x.street(0);
        x.odds(201, 3);
        x.mid(13);
        x.digest();
        due("upper(), as it was", x.upper(), 3);
        due("lower(), as it was", x.lower(), 4);
        PinDuties y = street("p0011p0111p0211p0311p0411p0511p0611p0711");
        chance(y, "odds(8, 11), of eight", y.odds(8, 11), 1, 429981696);
    }

    private static void upperBefore() {
        due("upper(), new", new PinDuties().upper(), 0);
        PinDuties x = street("p0015");
        x.odds(201, 0);
        x.mid(13);
        x.best(0);
        due("upper(), none told", x.upper(), 0);
    }

    private static void lowerBefore() {
        due("lower(), new", new PinDuties().lower(), 1);
        PinDuties x = street("p0015");
        x.odds(201, 0);
        x.mid(13);
        x.best(0);
        due("lower(), none told", x.lower(), 1);
    }

    // ---- 39 count

    private static void countPins() {
        due("count(0), no street", new PinDuties().count(0), 0);
        due("count(0)", street("p0010").count(0), 1);
        PinDuties x = rich();
        due("count(0): held and swept ones, too", x.count(0), 6);
        type(x, 3, "p0010c0010l0010m0010b0010w0010p0010c0010");
        x.street(3);
        due("count(0)", x.count(0), 8);
    }

    private static void countPlace() {
        due("count(1), no street", new PinDuties().count(1), 0);
        due("count(1)", at(street("p0010"), 9).count(1), 9);
        due("count(1)", rich().count(1), 3);
    }

    private static void countDeeds() {
        due("count(2), no street", new PinDuties().count(2), 0);
        due("count(2)", rich().count(2), 9);
        due("count(2)", walked("p0010", 40).count(2), 40);
        PinDuties x = walked("p0010", 40);
        x.step(1);
        due("count(2), one refused", x.count(2), 40);
    }

    private static void countSets() {
        PinDuties x = street("p0010p0010p0010p0010p0010p0010p0010p9010");
        List<ToLongFunction<PinDuties>> deeds = List.of(y -> y.pick(0), y -> y.pick(6), y -> y.sweep(),
            y -> y.step(1), y -> y.drop(6));
        int[][] want = {{1, 254, 0}, {65, 190, 0}, {65, 128, 62}, {65, 128, 62}, {1, 192, 62}};
        for (int i = 0; i < want.length; i++) {
            deeds.get(i).applyAsLong(x);
            for (int j = 0; j < 3; j++) {
                due("count(" + (3 + j) + ") behind " + (i + 1) + " deeds", x.count(3 + j), want[i][j]);
            }
        }
        for (int what = 3; what <= 5; what++) {
            due("count(" + what + "), no street", new PinDuties().count(what), 0);
        }
    }

    private static void countRows() {
        PinDuties x = new PinDuties();
        due("count(6), none", x.count(6), 0);
        for (int r = 5; r >= 0; r--) {
            x.row(r, r == 5 ? 0 : 40);
            due("count(6)", x.count(6), 6 - r);
        }
        x.row(3, 1);
        due("count(6), one anew", x.count(6), 6);
        x.tear(3);
        due("count(6), one torn", x.count(6), 5);
        due("count(7)", x.count(7), 0);
    }

    private static void countTexts() {
        PinDuties x = new PinDuties();
        due("count(7), none", x.count(7), 0);
        for (int t = 3; t >= 0; t--) {
            x.text(t, t == 3 ? 0 : 60);
            due("count(7)", x.count(7), 4 - t);
        }
        x.text(2, 1);
        due("count(7), one anew", x.count(7), 4);
        due("count(6)", x.count(6), 0);
    }

    private static void countKept() {
        PinDuties x = street("p0010");
        due("count(8), none", x.count(8), 0);
        for (int k = 2; k >= 0; k--) {
            x.keep(k);
            due("count(8)", x.count(8), 3 - k);
        }
        x.keep(2);
        x.on(1);
        due("count(8), one anew", x.count(8), 3);
        x.street(0);
        due("count(8), another street", x.count(8), 0);
    }

    private static void countCold() {
        due("count(9), no street", new PinDuties().count(9), 0);
        due("count(9)", street("p0010l0010m0010b0010").count(9), 0);
        due("count(9)", street("c0010w0010w0010p0010").count(9), 3);
        due("count(9)", street("c0010c0010c0010c0010w0010w0010w0010w0010").count(9), 8);
    }

    private static void countLunches() {
        due("count(10), no street", new PinDuties().count(10), 0);
        due("count(10)", street("p0010c0010m0010w0010").count(10), 0);
        due("count(10)", street("l0010b0010b0010p0010").count(10), 3);
        due("count(10)", street("l0010l0010l0010l0010b0010b0010b0010b0010").count(10), 8);
    }

    private static void countHeldAndSwept() {
        PinDuties x = street("c0010w0010l0010b0010");
        pick(x, 0, 2);
        x.sweep();
        due("count(9)", x.count(9), 2);
        due("count(10)", x.count(10), 2);
        due("count(4): none lies", x.count(4), 0);
    }

    private static void countBad() {
        for (int what : outside(0, 10)) {
            bad("count(" + what + ")", Edges::rich, x -> x.count(what));
        }
        for (int what = 0; what <= 10; what++) {
            final int of = what;
            aside("count(" + what + ")", Edges::rich, x -> x.count(of));
        }
    }

    // ---- 40, 41 finding, findings

    private static void findingLatest() {
        PinDuties x = rich();
        due("finding()", x.finding(), 4);
        finds(x, "tear(5)", x.tear(5), 1);
        finds(x, "at(0, 3)", x.at(0, 3), 2);
        finds(x, "mark(0, 1)", x.mark(0, 1), 3);
        finds(x, "mean(1)", x.mean(1), 4);
        finds(x, "row(5, -1)", x.row(5, -1), 5);
        x.at(0, 0);
        x.row(6, 0);
        x.walk(4);
        x.fault(0);
        due("finding(), behind calls that find none", x.finding(), 5);
        x.street(0);
        due("finding(), another street", x.finding(), 5);
    }

    private static void findingBefore() {
        PinDuties x = new PinDuties();
        due("finding(), new", x.finding(), 0);
        x.row(6, 0);
        x.step(1);
        x.row(0, 0);
        due("finding(), none answered", x.finding(), 0);
    }

    private static void findingsOfEach() {
        PinDuties x = rich();
        int[] want = {2, 1, 1, 1, 1};
        for (int f = 1; f <= 5; f++) {
            due("findings(" + f + ")", x.findings(f), want[f - 1]);
        }
        for (int i = 0; i < 7; i++) {
            x.mean(1);
        }
        due("findings(4)", x.findings(4), 8);
        PinDuties y = new PinDuties();
        for (int i = 0; i < 510; i++) {
            y.tear(0);
        }
        due("findings(1), the 511th call", y.findings(1), 510);
        due("finding(), the 512th call", y.finding(), 1);
    }

    private static void findingsBad() {
        for (int f : outside(1, 5)) {
            bad("findings(" + f + ")", Edges::rich, x -> x.findings(f));
        }
        bad("findings(0), of a new object", PinDuties::new, x -> x.findings(0));
    }

    // ---- 42 digest

    private static long digestOf(long... values) {
        long h = 17;
        for (long v : values) {
            h = 31 * h + v;
        }
        return h;
    }

    private static void digestOfANewObject() {
        due("digest(), new", new PinDuties().digest(), digestOf(0, 0, 0, 0, 0, 0, 0, 0, 0, 0, 0,
            -1, -1, -1, -1, -1, -1, -1, -1, -1, -1, -1, -1, -1));
    }

    private static void digestAside() {
        aside("digest()", Edges::rich, x -> x.digest() * 0);
        PinDuties x = rich();
        long h = x.digest();
        due("asked() stays", x.asked(), -7);
        x.pin(0, 4);
        x.mid(3);
        x.tear(5);
        due("digest(), what is told is no part of it", x.digest(), h);
    }

    private static void digestOfAStreet() {
        PinDuties x = street("w9945p0138m0027");
        pick(x, 1);
        x.sweep();
        x.step(1);
        for (int i = 0; i < 15; i++) {
            x.put(0, i, 32);
        }
        x.text(0, 0);
        due("digest()", x.digest(), digestOf(3, 1, 3, 2, 1, 4, 0, 1, 0, 1, 0,
            5, 9, 0x1e00, 4, 5, -9, 0, 0, 0, -9, 14, 3, 8, 8, 1, 0, 3, -9, 3, 2, 7, 14, 0, 1,
            -1, -1, -1, -1, -1, -1, -1, -1, -1, 0, -1, -1, -1));
    }

    private static void digestOfKept() {
        PinDuties x = street("p0138");
        x.text(0, 0);
        x.keep(2);
        x.step(1);
        x.keep(0);
        due("digest()", x.digest(), digestOf(1, 1, 1, 0, 1, 0, 0, 1, 2, 0, 0, 0, 0, 14, 3, 8, 8, 0, 0,
            1, -1, 0, -1, -1, -1, -1, -1, -1, 0, -1, -1, -1));
    }

    private static void digestOfRows() {
        PinDuties x = new PinDuties();
        fill(x, 5, Integer.MIN_VALUE, -1, Integer.MAX_VALUE);
        fill(x, 0, 4);
        x.row(2, 0);
        due("digest()", x.digest(), digestOf(0, 0, 0, 0, 0, 0, 3, 0, 0, 0, 0, -1, -1, -1,
            1, 4, -1, 0, -1, -1, 3, Integer.MIN_VALUE, -1, Integer.MAX_VALUE, -1, -1, -1, -1));
        x.tear(5);
        x.row(5, 2);
        due("digest(), a row anew", x.digest(), digestOf(0, 0, 0, 0, 0, 0, 3, 0, 0, 0, 0, -1, -1, -1,
            1, 4, -1, 0, -1, -1, 2, 0, 0, -1, -1, -1, -1));
    }

    private static void digestOfTexts() {
        PinDuties x = new PinDuties();
        x.text(3, 2);
        x.put(3, 1, 128);
        x.text(0, 0);
        x.text(1, 1);
        due("digest()", x.digest(), digestOf(0, 0, 0, 0, 0, 0, 0, 3, 0, 0, 0, -1, -1, -1,
            -1, -1, -1, -1, -1, -1, 0, 1, 32, -1, 2, 32, -128));
    }

    private static void digestWrapsAround() {
        PinDuties x = new PinDuties();
        long[] values = new long[11 + 3 + 6 * 41 + 4];
        values[6] = 6;
        int at = 11;
        for (int i = 0; i < 3; i++) {
            values[at] = -1;
            at++;
        }
        for (int r = 0; r <= 5; r++) {
            x.row(r, 40);
            x.lay(r, r, Integer.MAX_VALUE);
            values[at] = 40;
            values[at + 1 + r] = Integer.MAX_VALUE;
            at += 41;
        }
        for (int i = 0; i < 4; i++) {
            values[at + i] = -1;
        }
        due("digest(), six rows of forty", x.digest(), digestOf(values));
    }
}
