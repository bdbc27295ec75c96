/** The edges of promises 12 to 14: what pins are, what they are worth. */
final class EdgesOfPins extends Edges {
    private static final String LETTERS = "pclmbw";
    private static final int PIN = 0, COLD = 1, LUNCH = 2, MARE = 3, BRIDE = 4, WRIT = 5;

    static void all() {
        promise(12);
        sentence("Of a PIN: 0 the KIND,", EdgesOfPins::pinKind);
        sentence("1 the PLACE where it lies", EdgesOfPins::pinPlace);
        sentence("(NONE: HELD, SWEPT),", EdgesOfPins::pinPlaceNone);
        sentence("2 its HOURS (bits),", EdgesOfPins::pinHours);
        sentence("3 how LONG,", EdgesOfPins::pinLong);
        sentence("4 its LUCK,", EdgesOfPins::pinLuck);
        sentence("5 what it is WORTH,", EdgesOfPins::pinWorth);
        sentence("6 whether it is HELD (1, 0),", EdgesOfPins::pinHeld);
        sentence("7 whether it was SWEPT (1, 0),", EdgesOfPins::pinSwept);
        sentence("all told by asked(): 1.", EdgesOfPins::pinTells);
        sentence("BAD.", EdgesOfPins::pinBad);
        promise(13);
        sentence("What a PIN that IS of a KIND tells, and 100:", EdgesOfPins::markOfEach);
        sentence("a COLD one (WRIT, too) how much it is WORTH,", EdgesOfPins::markCold);
        sentence("a LUNCH (BRIDE, too) how much more than a PIN alike,", EdgesOfPins::markLunch);
        sentence("a MARE how much more than a PIN alike,", EdgesOfPins::markMare);
        sentence("a BRIDE how much more than a LUNCH alike,", EdgesOfPins::markBride);
        sentence("a WRIT how much more than a COLD one alike (below 100, if less).", EdgesOfPins::markWrit);
        sentence("BAD:", EdgesOfPins::markBad);
        sentence("BAD: also KIND 0;", EdgesOfPins::markOfKindNought);
        sentence("UNLIKE.", EdgesOfPins::markUnlike);
        sentence("BAD: also KIND 0; UNLIKE.", EdgesOfPins::markBadAheadOfUnlike);
        promise(14);
        sentence("What a PIN would be WORTH with a LUCK (0 .. 9),", EdgesOfPins::worthByEachLuck);
        sentence("told by asked(): 1.", EdgesOfPins::worthAside);
        sentence("BAD.", EdgesOfPins::worthBad);
    }

    /** Kinds and worth, which are told in the Terms. */
    static void terms() {
        sentence("KINDS of PINS and letters: 0 PIN (p, 112), 1 COLD (c, 99; a PIN), 2 LUNCH (l, 108; a PIN), "
            + "3 MARE (m, 109; a PIN), 4 BRIDE (b, 98; a LUNCH), 5 WRIT (w, 119; a COLD).",
            EdgesOfPins::kindsByLetters);
        sentence("1 COLD (c, 99; a PIN), 2 LUNCH (l, 108; a PIN), 3 MARE (m, 109; a PIN), 4 BRIDE (b, 98; a LUNCH), "
            + "5 WRIT (w, 119; a COLD).", EdgesOfPins::markUnlike);
        sentence("A PIN is WORTH its LUCK;", () -> worths(PIN));
        sentence("a COLD one 10 less than that;", () -> worths(COLD));
        sentence("a LUNCH 3 more, if HOUR 5 is one of its HOURS;", () -> worths(LUNCH));
        sentence("a MARE as much as a PIN for each of its HOURS;", () -> worths(MARE));
        sentence("a BRIDE twice as much as a LUNCH;", () -> worths(BRIDE));
        sentence("a WRIT as a COLD one, 1 less for each of its HOURS.", () -> worths(WRIT));
        sentence("(It may be below 0.)", EdgesOfPins::worthBelowNought);
    }

    private static int worthOf(int kind, int hour, int length, int luck) {
        int lunch = hour <= 5 && 5 < hour + length ? luck + 3 : luck;
        int[] all = {luck, luck - 10, lunch, luck * length, lunch * 2, luck - 10 - length};
        return all[kind];
    }

    private static String signsOf(int kind, int hour, int length, int luck) {
        return LETTERS.substring(kind, kind + 1) + "0" + hour + length + luck;
    }

    private static void worths(int kind) {
        for (int hour = 0; hour <= 9; hour++) {
            for (int length = 1; length <= 4; length++) {
                for (int luck = 0; luck <= 9; luck++) {
                    String signs = signsOf(kind, hour, length, luck);
                    PinDuties x = street(signs);
                    told(x, "pin(0, 5) of " + signs, x.pin(0, 5), worthOf(kind, hour, length, luck));
                }
            }
        }
    }

    private static void kindsByLetters() {
        int[] letters = {112, 99, 108, 109, 98, 119};
        for (int kind = 0; kind <= 5; kind++) {
            PinDuties x = new PinDuties();
            type(x, 0, "x0010");
            x.put(0, 0, letters[kind]);
            due("street(0) with the letter " + letters[kind], x.street(0), 1);
            told(x, "pin(0, 0)", x.pin(0, 0), kind);
            due("count(9): COLD", x.count(9), kind == COLD || kind == WRIT ? 1 : 0);
            due("count(10): LUNCH", x.count(10), kind == LUNCH || kind == BRIDE ? 1 : 0);
        }
    }

    private static void worthBelowNought() {
        PinDuties x = street("c0010w0040w0019c0019");
        int[] want = {-10, -14, -2, -1};
        for (int k = 0; k < 4; k++) {
            told(x, "pin(" + k + ", 5)", x.pin(k, 5), want[k]);
        }
        pick(x, 0, 1, 2, 3);
        both(x, "clashes()", x.clashes(), 6, -27);
    }

    // ---- 12 pin

    private static void pinKind() {
        PinDuties x = rich();
        for (int k = 0; k <= 5; k++) {
            told(x, "pin(" + k + ", 0)", x.pin(k, 0), k);
        }
    }

    private static void pinPlace() {
        PinDuties x = street("p0010p9010p5010");
        int[] places = {0, 9, 5};
        for (int k = 0; k < 3; k++) {
            told(x, "pin(" + k + ", 1)", x.pin(k, 1), places[k]);
        }
        x.pick(0);
        at(x, 9);
        x.drop(0);
        told(x, "pin(0, 1), dropped in the last place", x.pin(0, 1), 9);
        told(x, "pin(1, 1)", x.pin(1, 1), 9);
        x.undo(0);
        told(x, "pin(0, 1), undone", x.pin(0, 1), 0);
    }

    private static void pinPlaceNone() {
        PinDuties x = street("p0010p0010");
        x.pick(0);
        told(x, "pin(0, 1), held", x.pin(0, 1), -9);
        told(x, "pin(1, 1), lies", x.pin(1, 1), 0);
        x.sweep();
        told(x, "pin(1, 1), swept", x.pin(1, 1), -9);
        x.drop(0);
        told(x, "pin(0, 1), dropped", x.pin(0, 1), 0);
        told(x, "pin(1, 1), swept", x.pin(1, 1), -9);
        x.sweep();
        told(x, "pin(0, 1), swept", x.pin(0, 1), -9);
    }

    private static void pinHours() {
        PinDuties x = street("p0010p0040p0910p0940p0520");
        int[] want = {1, 0xf, 0x200, 0x1e00, 0x60};
        for (int k = 0; k < 5; k++) {
            told(x, "pin(" + k + ", 2)", x.pin(k, 2), want[k]);
        }
        x.pick(0);
        x.sweep();
        told(x, "pin(0, 2), held", x.pin(0, 2), 1);
        told(x, "pin(1, 2), swept", x.pin(1, 2), 0xf);
    }

    private static void pinLong() {
        PinDuties x = street("p0010p0040p9920p9930");
        int[] want = {1, 4, 2, 3};
        for (int k = 0; k < 4; k++) {
            told(x, "pin(" + k + ", 3)", x.pin(k, 3), want[k]);
        }
    }

    private static void pinLuck() {
        PinDuties x = street("p0010c0019m0049b0540w0045");
        int[] want = {0, 9, 9, 0, 5};
        for (int k = 0; k < 5; k++) {
            told(x, "pin(" + k + ", 4)", x.pin(k, 4), want[k]);
        }
    }

    private static void pinWorth() {
        PinDuties x = street("p0010c0019m0049b0540w0045b0149l0519");
        int[] want = {0, -1, 36, 6, -9, 18, 12};
        for (int k = 0; k < 7; k++) {
            told(x, "pin(" + k + ", 5)", x.pin(k, 5), want[k]);
        }
        x.pick(2);
        x.sweep();
        told(x, "pin(2, 5), held", x.pin(2, 5), 36);
        told(x, "pin(3, 5), swept", x.pin(3, 5), 6);
    }

    private static void pinHeld() {
        PinDuties x = street("p0010p0010p1010");
        told(x, "pin(0, 6), at first", x.pin(0, 6), 0);
        x.pick(0);
        told(x, "pin(0, 6), held", x.pin(0, 6), 1);
        told(x, "pin(1, 6), lies", x.pin(1, 6), 0);
        x.sweep();
        told(x, "pin(0, 6), held where all else is swept", x.pin(0, 6), 1);
        told(x, "pin(1, 6), swept", x.pin(1, 6), 0);
        x.drop(0);
        told(x, "pin(0, 6), dropped", x.pin(0, 6), 0);
    }

    private static void pinSwept() {
        PinDuties x = street("p0010p0010p1010");
        told(x, "pin(0, 7), at first", x.pin(0, 7), 0);
        x.pick(0);
        x.sweep();
        told(x, "pin(0, 7), held", x.pin(0, 7), 0);
        told(x, "pin(1, 7), swept", x.pin(1, 7), 1);
        told(x, "pin(2, 7), elsewhere", x.pin(2, 7), 0);
        x.drop(0);
        told(x, "pin(0, 7), dropped where it was swept", x.pin(0, 7), 0);
        x.undo(1);
        told(x, "pin(1, 7), undone", x.pin(1, 7), 0);
    }

    private static void pinTells() {
        for (int k = 0; k <= 5; k++) {
            for (int what = 0; what <= 7; what++) {
                final int pin = k;
                final int of = what;
                due("pin(" + k + ", " + what + ")", rich().pin(k, what), 1);
                aside("pin(" + k + ", " + what + ")", Edges::rich, x -> x.pin(pin, of));
            }
        }
    }

    private static void pinBad() {
        for (int k : outside(0, 5)) {
            bad("pin(" + k + ", 0), of six", Edges::rich, x -> x.pin(k, 0));
        }
        for (int what : outside(0, 7)) {
            bad("pin(0, " + what + ")", Edges::rich, x -> x.pin(0, what));
            bad("pin(5, " + what + ")", Edges::rich, x -> x.pin(5, what));
        }
        bad("pin(8, 0), of eight", EdgesOfPins::eight, x -> x.pin(8, 0));
        due("pin(7, 0), of eight", eight().pin(7, 0), 1);
        bad("pin(0, 0), no pins", PinDuties::new, x -> x.pin(0, 0));
    }

    private static PinDuties eight() {
        return street("p0010p0010p0010p0010p0010p0010p0010p0010");
    }

    // ---- 13 mark

    private static boolean is(int kind, int other) {
        return kind == other || kind == BRIDE && other == LUNCH || kind == WRIT && other == COLD;
    }

    // Hour 5 is one of the hours of each: luck 4 for two hours.
    private static PinDuties alike() {
        return street("p0424c0424l0424m0424b0424w0424");
    }

    private static void markOfEach() {
        int[][] want = {{COLD, COLD, 94}, {LUNCH, LUNCH, 103}, {MARE, MARE, 104}, {BRIDE, LUNCH, 110},
            {BRIDE, BRIDE, 107}, {WRIT, COLD, 92}, {WRIT, WRIT, 98}};
        for (int[] w : want) {
            due("mark(" + w[0] + ", " + w[1] + ")", alike().mark(w[0], w[1]), w[2]);
            aside("mark(" + w[0] + ", " + w[1] + ")", EdgesOfPins::alike, x -> x.mark(w[0], w[1]));
        }
        due("asked(), not told by mark()", alike().asked(), 0);
    }

    private static void marks(int kind, int other, int less) {
        for (int hour = 2; hour <= 6; hour++) {
            for (int length = 1; length <= 4; length++) {
                for (int luck = 0; luck <= 9; luck += 3) {
                    String signs = signsOf(kind, hour, length, luck);
                    int ahead = less < 0 ? 0 : worthOf(less, hour, length, luck);
                    int want = 100 + worthOf(kind, hour, length, luck) - ahead;
                    due("mark(0, " + other + ") of " + signs, street(signs).mark(0, other), want);
                }
            }
        }
    }

    private static void markCold() {
        marks(COLD, COLD, -1);
        marks(WRIT, COLD, -1);
        due("the least", street("w0040").mark(0, COLD), 86);
        due("the most", street("c0019").mark(0, COLD), 99);
    }

    private static void markLunch() {
        marks(LUNCH, LUNCH, PIN);
        marks(BRIDE, LUNCH, PIN);
        due("a lunch at another hour", street("l0649").mark(0, LUNCH), 100);
        due("the most", street("b0519").mark(0, LUNCH), 115);
    }

    private static void markMare() {
        marks(MARE, MARE, PIN);
        due("for an hour", street("m0919").mark(0, MARE), 100);
        due("for four hours", street("m0949").mark(0, MARE), 127);
        due("without luck", street("m0040").mark(0, MARE), 100);
    }

    private static void markBride() {
        marks(BRIDE, BRIDE, LUNCH);
        due("without luck, at another hour", street("b0640").mark(0, BRIDE), 100);
        due("the most", street("b0519").mark(0, BRIDE), 112);
    }

    private static void markWrit() {
        marks(WRIT, WRIT, COLD);
        due("for an hour", street("w0019").mark(0, WRIT), 99);
        due("for four hours", street("w0949").mark(0, WRIT), 96);
    }

    private static void markBad() {
        for (int k : outside(0, 5)) {
            bad("mark(" + k + ", 1), of six", Edges::rich, x -> x.mark(k, 1));
        }
        for (int kind : outside(1, 5)) {
            bad("mark(1, " + kind + ")", Edges::rich, x -> x.mark(1, kind));
        }
        bad("mark(0, 1), no pins", PinDuties::new, x -> x.mark(0, 1));
    }

    private static void markOfKindNought() {
        for (int k = 0; k <= 5; k++) {
            final int pin = k;
            bad("mark(" + k + ", 0)", Edges::rich, x -> x.mark(pin, 0));
        }
    }

    private static void markUnlike() {
        for (int k = 0; k <= 5; k++) {
            for (int kind = 1; kind <= 5; kind++) {
                final int pin = k;
                final int other = kind;
                if (!is(k, kind)) {
                    unlike("mark(" + k + ", " + kind + ")", Edges::rich, x -> x.mark(pin, other));
                } else {
                    due("mark(" + k + ", " + kind + "), no finding", rich().mark(k, kind) > 0 ? 1 : 0, 1);
                }
            }
        }
    }

    private static void markBadAheadOfUnlike() {
        bad("mark(6, 3)", Edges::rich, x -> x.mark(6, 3));
        bad("mark(3, 0), a mare is a pin", Edges::rich, x -> x.mark(3, 0));
        bad("mark(0, 6)", Edges::rich, x -> x.mark(0, 6));
    }

    // ---- 14 worth

    private static void worthByEachLuck() {
        PinDuties x = rich();
        int[][] alike = {{1, 3}, {2, 1}, {4, 2}, {6, 3}, {3, 4}, {5, 2}};
        for (int k = 0; k <= 5; k++) {
            for (int luck = 0; luck <= 9; luck++) {
                int want = worthOf(k, alike[k][0], alike[k][1], luck);
                told(x, "worth(" + k + ", " + luck + ")", x.worth(k, luck), want);
            }
        }
    }

    private static void worthAside() {
        aside("worth(0, 0)", Edges::rich, x -> x.worth(0, 0));
        PinDuties x = rich();
        told(x, "worth(4, 9)", x.worth(4, 9), 24);
        told(x, "pin(4, 4): its luck stays", x.pin(4, 4), 6);
        told(x, "pin(4, 5)", x.pin(4, 5), 18);
    }

    private static void worthBad() {
        for (int k : outside(0, 5)) {
            bad("worth(" + k + ", 0), of six", Edges::rich, x -> x.worth(k, 0));
        }
        for (int luck : outside(0, 9)) {
            bad("worth(0, " + luck + ")", Edges::rich, x -> x.worth(0, luck));
        }
        bad("worth(0, 0), no pins", PinDuties::new, x -> x.worth(0, 0));
    }
}
