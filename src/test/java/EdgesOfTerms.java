import java.util.function.Supplier;
import java.util.function.ToLongFunction;

/** The edges that the Terms name for all calls; what they tell of one kind of call stands beside its promises. */
final class EdgesOfTerms extends Edges {
    // In refusedChangesNothing(): lay, at, tear, copy, mean, put, fault, mark, on, whose, kinds, test.
    private static final int FINDINGS = 12;
    // street, pick, drop.
    private static final int STATES = 3;
    // row, text, pin, worth, step, undo, keep, best, walk, within, lucks, duel, odds, mid, lots, count, findings.
    private static final int BADS = 17;

    static void all() {
        section("Terms");
        sentence("======== ANSWERS. Refused is, the first of these that fits, in this order: "
            + "BAD -1 (a number that is none, or not as told), FULL -2, STATE -4 (not now), SPENT -6 (more than told), "
            + "FINDING -3 (finding() tells which), unless a call says so otherwise.", EdgesOfTerms::numbersOfAnswers);
        sentence("BAD -1 (a number that is none, or not as told),", EdgesOfTerms::badAheadOfAll);
        sentence("FULL -2,", EdgesOfTerms::fullBehindState);
        sentence("STATE -4 (not now),", EdgesOfTerms::stateAheadOfFinding);
        sentence("FINDING -3 (finding() tells which),", EdgesOfTerms::findingTellsWhich);
        sentence("NONE -9.", EdgesOfTerms::noneIsNoRefusal);
        sentence("What is refused changes nothing but finding(), findings().", EdgesOfTerms::refusedChangesNothing);
        sentence("FINDINGS: 1 NOTHING (a ROW, a TEXT, a kept STREET that is missing),", EdgesOfTerms::findingNothing);
        sentence("2 BEYOND (a place that there is not),", EdgesOfTerms::findingBeyond);
        sentence("3 UNLIKE (a PIN of another KIND; a number that is none),", EdgesOfTerms::findingUnlike);
        sentence("4 NOUGHT (shared among none),", EdgesOfTerms::findingNought);
        sentence("5 SIZE (fewer than none; not as many as due).", EdgesOfTerms::findingSize);
        EdgesOfChances.terms();
        sentence("Sets (of PINS, HOURS, KINDS, numbers 0 .. 9) are told by bits.", EdgesOfTerms::setsByBits);
        sentence("======== 1 ROWS 0 .. 5 are rows of 0 to 40 ints,", EdgesOfTerms::rows);
        sentence("TEXTS 0 .. 3 rows of 0 to 60 bytes,", EdgesOfTerms::texts);
        sentence("or missing (at first).", EdgesOfTerms::missingAtFirst);
        EdgesOfTexts.terms();
        EdgesOfPins.terms();
        EdgesOfDeeds.terms();
        EdgesOfDay.terms();
    }

    private static void numbersOfAnswers() {
        due("BAD", new PinDuties().row(6, 0), -1);
        due("FULL", walked("p0010", 40).step(1), -2);
        due("FINDING", new PinDuties().tear(0), -3);
        due("STATE", new PinDuties().step(1), -4);
        due("NONE", street("p0010").fault(0), -9);
        due("PinDuties.BAD", PinDuties.BAD, -1);
        due("PinDuties.FULL", PinDuties.FULL, -2);
        due("PinDuties.FINDING", PinDuties.FINDING, -3);
        due("PinDuties.STATE", PinDuties.STATE, -4);
        due("PinDuties.SPENT", PinDuties.SPENT, -6);
        due("PinDuties.NONE", PinDuties.NONE, -9);
    }

    // With no street and nothing there, all else would be refused otherwise.
    private static void badAheadOfAll() {
        Supplier<PinDuties> made = PinDuties::new;
        bad("lay(6, 0, 0)", made, x -> x.lay(6, 0, 0));
        bad("copy(0, 0, 6, 0, -1)", made, x -> x.copy(0, 0, 6, 0, -1));
        bad("street(4)", made, x -> x.street(4));
        bad("step(0)", made, x -> x.step(0));
        bad("keep(3)", made, x -> x.keep(3));
        bad("on(3)", made, x -> x.on(3));
        bad("best(6)", made, x -> x.best(6));
        bad("within(21)", made, x -> x.within(21));
        bad("whose(6)", made, x -> x.whose(6));
        bad("duel(5)", made, x -> x.duel(5));
        bad("odds(201, 0)", made, x -> x.odds(201, 0));
        bad("mid(13)", made, x -> x.mid(13));
        bad("lots(21, 1)", made, x -> x.lots(21, 1));
        Supplier<PinDuties> full = () -> walked("p0010p9010", 40);
        bad("step(0), 40 deeds", full, x -> x.step(0));
        bad("pick(2), 40 deeds", full, x -> x.pick(2));
        bad("drop(2), 40 deeds", full, x -> x.drop(2));
        bad("lots(21, 1), 40 deeds", full, x -> x.lots(21, 1));
    }

    // "unless a call says so otherwise": those that can be FULL say that it comes last.
    private static void fullBehindState() {
        Supplier<PinDuties> full = () -> walked("p0010p9010", 40);
        full("step(1)", full, x -> x.step(1));
        notNow("step(-1)", full, x -> x.step(-1));
        full("pick(0)", full, x -> x.pick(0));
        notNow("pick(1)", full, x -> x.pick(1));
        notNow("drop(0)", full, x -> x.drop(0));
        full("sweep()", full, x -> x.sweep());
        full("lots(1, 1)", full, x -> x.lots(1, 1));
    }

    private static void stateAheadOfFinding() {
        notNow("whose(0), no pins, missing", PinDuties::new, x -> x.whose(0));
        notNow("walk(4), held", Edges::rich, x -> x.walk(4));
        nothing("street(3), missing: behind NOTHING", Edges::rich, x -> x.street(3));
    }

    private static void findingTellsWhich() {
        PinDuties x = rich();
        finds(x, "at(5, 0)", x.at(5, 0), 1);
        finds(x, "at(0, 3)", x.at(0, 3), 2);
        finds(x, "mark(0, 3)", x.mark(0, 3), 3);
        finds(x, "mean(1)", x.mean(1), 4);
        finds(x, "text(0, -1)", x.text(0, -1), 5);
    }

    private static void noneIsNoRefusal() {
        none("fault(0)", Edges::rich, x -> x.fault(0));
        due("fault(0)", rich().fault(0), -9);
    }

    private static void refusedChangesNothing() {
        ToLongFunction<PinDuties> all = x -> x.row(0, 41) + x.lay(0, 3, 1) + x.at(0, -1) + x.tear(5)
            + x.copy(0, 0, 2, 38, 3) + x.mean(1) + x.text(0, 61) + x.put(0, 30, 1) + x.fault(3) + x.street(1)
            + x.pin(6, 0) + x.mark(0, 2) + x.worth(0, 10) + x.step(2) + x.pick(0) + x.drop(0) + x.undo(10)
            + x.keep(3) + x.on(1) + x.best(6) + x.walk(64) + x.within(21) + x.whose(0) + x.kinds(0, 0)
            + x.test(0, 0) + x.lucks(0, 61) + x.duel(5) + x.odds(201, 0) + x.mid(13) + x.lots(0, 1)
            + x.count(11) + x.findings(6);
        PinDuties x = rich();
        PinDuties y = rich();
        due("all that are refused, by their sum", all.applyAsLong(x), -3 * FINDINGS - 4 * STATES - BADS);
        due("asked()", x.asked(), y.asked());
        due("upper()", x.upper(), y.upper());
        due("lower()", x.lower(), y.lower());
        int sum = 0;
        for (int f = 1; f <= 5; f++) {
            sum += x.findings(f) - y.findings(f);
        }
        due("findings() more", sum, FINDINGS);
        same("all that are refused", x, y);
    }

    private static void findingNothing() {
        nothing("at(5, 0)", Edges::rich, x -> x.at(5, 0));
        nothing("fault(3)", Edges::rich, x -> x.fault(3));
        nothing("street(3)", Edges::rich, x -> x.street(3));
        nothing("on(1)", Edges::rich, x -> x.on(1));
        nothing("whose(5)", Edges::rich, x -> x.whose(5));
        nothing("kinds(0, 5)", Edges::rich, x -> x.kinds(0, 5));
        nothing("test(0, 5)", Edges::rich, x -> x.test(0, 5));
    }

    private static void findingBeyond() {
        beyond("lay(0, 3, 1)", Edges::rich, x -> x.lay(0, 3, 1));
        beyond("put(0, 30, 1)", Edges::rich, x -> x.put(0, 30, 1));
        beyond("copy(0, 0, 2, 38, 3)", Edges::rich, x -> x.copy(0, 0, 2, 38, 3));
    }

    private static void findingUnlike() {
        unlike("mark(0, 1)", Edges::rich, x -> x.mark(0, 1));
        unlike("mark(1, 5)", Edges::rich, x -> x.mark(1, 5));
        unlike("kinds(0, 4)", () -> {
            PinDuties x = rich();
            x.lay(4, 0, 10);
            return x;
        }, x -> x.kinds(0, 4));
        unlike("whose(3)", () -> {
            PinDuties x = rich();
            x.lay(3, 12, 2);
            return x;
        }, x -> x.whose(3));
    }

    private static void findingNought() {
        nought("mean(1)", Edges::rich, x -> x.mean(1));
    }

    private static void findingSize() {
        size("row(0, -1)", Edges::rich, x -> x.row(0, -1));
        size("text(0, -1)", Edges::rich, x -> x.text(0, -1));
        size("copy(0, 0, 0, 0, -1)", Edges::rich, x -> x.copy(0, 0, 0, 0, -1));
        size("whose(0)", Edges::rich, x -> x.whose(0));
        size("kinds(0, 0)", Edges::rich, x -> x.kinds(0, 0));
        size("test(0, 0)", Edges::rich, x -> x.test(0, 0));
    }

    private static void setsByBits() {
        PinDuties x = street("p0011p0911p0941p9011p9011p9011p9011p0011");
        x.pick(0);
        x.pick(7);
        due("count(3): PINS, the first and the last", x.count(3), 129);
        both(x, "busy(): the first HOUR", x.busy(), 1, 1);
        x.pick(2);
        both(x, "busy(): the last HOURS", x.busy(), 0x1e01, 1);
        x.row(0, 0);
        due("kinds(): the first KIND to the last", x.kinds(0, 0), 63);
        due("lucks(): number 0", x.lucks(0, 0), 1);
        due("lucks(): number 9", x.lucks(0, 9), 512);
    }

    private static void rows() {
        for (int r = 0; r <= 5; r++) {
            PinDuties x = new PinDuties();
            due("row(" + r + ", 0)", x.row(r, 0), 0);
            due("row(" + r + ", 40)", x.row(r, 40), 40);
            told(x, "lay(" + r + ", 39, least int)", x.lay(r, 39, Integer.MIN_VALUE), 0);
            told(x, "at(" + r + ", 39)", x.at(r, 39), Integer.MIN_VALUE);
            due("row(" + r + ", 41)", x.row(r, 41), PinDuties.BAD);
        }
        due("row(-1, 0)", new PinDuties().row(-1, 0), PinDuties.BAD);
        due("row(6, 0)", new PinDuties().row(6, 0), PinDuties.BAD);
    }

    private static void texts() {
        for (int t = 0; t <= 3; t++) {
            PinDuties x = new PinDuties();
            due("text(" + t + ", 0)", x.text(t, 0), 0);
            due("text(" + t + ", 60)", x.text(t, 60), 60);
            due("put(" + t + ", 59, -128)", x.put(t, 59, -128), 1032);
            due("put(" + t + ", 59, 127)", x.put(t, 59, 127), 872);
            due("text(" + t + ", 61)", x.text(t, 61), PinDuties.BAD);
        }
        due("text(-1, 0)", new PinDuties().text(-1, 0), PinDuties.BAD);
        due("text(4, 0)", new PinDuties().text(4, 0), PinDuties.BAD);
    }

    private static void missingAtFirst() {
        due("count(6)", new PinDuties().count(6), 0);
        due("count(7)", new PinDuties().count(7), 0);
        for (int r = 0; r <= 5; r++) {
            final int row = r;
            nothing("mean(" + r + ")", PinDuties::new, x -> x.mean(row));
        }
        for (int t = 0; t <= 3; t++) {
            final int text = t;
            nothing("fault(" + t + ")", PinDuties::new, x -> x.fault(text));
        }
    }
}
