/** The edges of promises 8 to 11: texts, faults, streets. */
final class EdgesOfTexts extends Edges {
    private static final int LEAST = Integer.MIN_VALUE, GREATEST = Integer.MAX_VALUE;
    private static final String EIGHT = "p0010c1121l2232m3343b4414w5525p6636c9949";

    static void all() {
        promise(8);
        sentence("A TEXT is there with n blanks: n.", EdgesOfTexts::textOfEachSize);
        sentence("A TEXT is there with n blanks: n.", EdgesOfTexts::textAnew);
        sentence("BAD:", EdgesOfTexts::textThatIsNone);
        sentence("BAD: also n above 60;", EdgesOfTexts::textAboveSixty);
        sentence("SIZE: below 0.", EdgesOfTexts::textBelowNought);
        sentence("BAD: also n above 60; SIZE: below 0.", EdgesOfTexts::textBadAheadOfSize);
        promise(9);
        sentence("Byte i of a TEXT is v,", EdgesOfTexts::putAtBothEnds);
        sentence("cut to a byte (-128 .. 127):", EdgesOfTexts::putCut);
        sentence("what it was, and 1000 more.", EdgesOfTexts::putTellsWhatWas);
        sentence("BAD;", EdgesOfTexts::putBad);
        sentence("NOTHING;", EdgesOfTexts::putNothing);
        sentence("BEYOND.", EdgesOfTexts::putBeyond);
        sentence("BAD; NOTHING; BEYOND.", EdgesOfTexts::putInOrder);
        promise(10);
        sentence("A FAULT of a TEXT;", EdgesOfTexts::faultOfEachText);
        sentence("NONE: there is none.", EdgesOfTexts::faultNone);
        sentence("BAD;", EdgesOfTexts::faultBad);
        sentence("NOTHING.", EdgesOfTexts::faultNothing);
        promise(11);
        sentence("A STREET by a TEXT", EdgesOfTexts::streetByEachText);
        sentence("(anew: as told at first,", EdgesOfTexts::streetAsToldAtFirst);
        sentence("no DEEDS;", EdgesOfTexts::streetWithoutDeeds);
        sentence("kept STREETS go):", EdgesOfTexts::streetKeepsNone);
        sentence("how many PINS.", EdgesOfTexts::streetOfOneToEight);
        sentence("BAD;", EdgesOfTexts::streetBad);
        sentence("NOTHING;", EdgesOfTexts::streetNothing);
        sentence("STATE: a FAULT.", EdgesOfTexts::streetOfAFault);
        sentence("(STATE behind NOTHING.)", EdgesOfTexts::streetNothingAheadOfState);
    }

    /** The faults of a text, which are told in the Terms. */
    static void terms() {
        sentence("A STREET (without PINS at first) is a TEXT:", EdgesOfTexts::noStreetAtFirst);
        sentence("blanks (32) ahead, between, behind as many as wanted,", EdgesOfTexts::blanksAsManyAsWanted);
        sentence("blanks (32)", EdgesOfTexts::noOtherBlanks);
        sentence("none within items:", EdgesOfTexts::blanksWithin);
        sentence("PINS (1 to 8;", EdgesOfTexts::onePinToEight);
        sentence("0, 1, .. as they come),", EdgesOfTexts::pinsAsTheyCome);
        sentence("each a letter,", EdgesOfTexts::eachLetter);
        sentence("the PLACE (0 .. 9),", () -> figures(1, 0, 9));
        sentence("the HOUR (0 .. 9) from which on,", () -> figures(2, 0, 9));
        sentence("how LONG (1 .. 4 HOURS) it is to be done,", () -> figures(3, 1, 4));
        sentence("its LUCK (0 .. 9),", () -> figures(4, 0, 9));
        sentence("one figure each.", EdgesOfTexts::oneFigureEach);
        sentence("A FAULT is the first place at which it can't go on so", EdgesOfTexts::firstFault);
        sentence("(a letter, a figure that is none such,", EdgesOfTexts::noneSuch);
        sentence("a ninth PIN: its place;", EdgesOfTexts::ninthPin);
        sentence("the TEXT's size, if its end comes too early,", EdgesOfTexts::endTooEarly);
        sentence("or there are blanks alone).", EdgesOfTexts::blanksAlone);
        sentence("HOURS of a day are 0 .. 12.", EdgesOfTexts::hoursOfADay);
    }

    // ---- 8 text

    private static void textOfEachSize() {
        PinDuties x = new PinDuties();
        for (int n = 0; n <= 60; n++) {
            int t = n % 4;
            due("text(" + t + ", " + n + ")", x.text(t, n), n);
            if (n > 0) {
                due("put(" + t + ", 0, 1), a blank", x.put(t, 0, 1), 1032);
            }
            if (n > 1) {
                due("put(" + t + ", " + (n - 1) + ", 1), a blank", x.put(t, n - 1, 1), 1032);
            }
            finds(x, "put(" + t + ", " + n + ", 1), behind it", x.put(t, n, 1), 2);
        }
        due("count(7)", x.count(7), 4);
        due("count(6)", x.count(6), 0);
    }

    private static void textAnew() {
        PinDuties x = new PinDuties();
        type(x, 3, "p0010");
        due("text(3, 5), anew", x.text(3, 5), 5);
        for (int i = 0; i < 5; i++) {
            due("put(3, " + i + ", 1), a blank", x.put(3, i, 1), 1032);
        }
        due("text(3, 0), anew", x.text(3, 0), 0);
        finds(x, "put(3, 0, 1)", x.put(3, 0, 1), 2);
        due("text(3, 6), anew", x.text(3, 6), 6);
        for (int i = 0; i < 6; i++) {
            due("put(3, " + i + ", 1), a blank", x.put(3, i, 1), 1032);
        }
        due("count(7)", x.count(7), 1);
    }

    private static void textThatIsNone() {
        for (int t : outside(0, 3)) {
            bad("text(" + t + ", 1)", Edges::rich, x -> x.text(t, 1));
        }
        bad("text(5, 1), of rows as many", Edges::rich, x -> x.text(5, 1));
    }

    private static void textAboveSixty() {
        for (int n : new int[] {61, 62, 255, 316, GREATEST}) {
            bad("text(0, " + n + ")", Edges::rich, x -> x.text(0, n));
            bad("text(3, " + n + "), missing", Edges::rich, x -> x.text(3, n));
        }
    }

    private static void textBelowNought() {
        for (int n : new int[] {-1, -2, -61, -256, LEAST}) {
            size("text(0, " + n + ")", Edges::rich, x -> x.text(0, n));
            size("text(3, " + n + "), missing", Edges::rich, x -> x.text(3, n));
        }
    }

    private static void textBadAheadOfSize() {
        bad("text(4, -1)", Edges::rich, x -> x.text(4, -1));
        bad("text(-1, -1)", Edges::rich, x -> x.text(-1, -1));
    }

    // ---- 9 put

    private static void putAtBothEnds() {
        PinDuties x = new PinDuties();
        x.text(3, 60);
        due("put(3, 0, 65)", x.put(3, 0, 65), 1032);
        due("put(3, 59, 66)", x.put(3, 59, 66), 1032);
        due("put(3, 0, 67)", x.put(3, 0, 67), 1065);
        due("put(3, 59, 68)", x.put(3, 59, 68), 1066);
        due("put(3, 1, 32), a blank yet", x.put(3, 1, 32), 1032);
        due("put(3, 58, 32), a blank yet", x.put(3, 58, 32), 1032);
        x.text(0, 1);
        due("put(0, 0, 69), of one", x.put(0, 0, 69), 1032);
        due("put(3, 0, 32), of another", x.put(3, 0, 32), 1067);
    }

    private static void putCut() {
        int[] values = {0, 127, 128, 129, 255, 256, 257, -1, -128, -129, -130, -256, -257, 383, 384, 65535, 65536,
            GREATEST, LEAST, GREATEST - 127, GREATEST - 128};
        int[] bytes = {0, 127, -128, -127, -1, 0, 1, -1, -128, 127, 126, 0, -1, 127, -128, -1, 0, -1, 0, -128, 127};
        PinDuties x = new PinDuties();
        x.text(2, 3);
        for (int i = 0; i < values.length; i++) {
            x.put(2, 1, values[i]);
            due("put(2, 1, 5) behind " + values[i], x.put(2, 1, 5), 1000 + bytes[i]);
        }
    }

    private static void putTellsWhatWas() {
        PinDuties x = rich();
        due("put(2, 59, 127), where -128 was", x.put(2, 59, 127), 872);
        due("put(2, 59, -1), where 127 was", x.put(2, 59, -1), 1127);
        due("put(2, 59, 0), where -1 was", x.put(2, 59, 0), 999);
        due("put(2, 59, 0), where 0 was", x.put(2, 59, 0), 1000);
        due("asked(), not told by put()", x.asked(), -7);
    }

    private static void putBad() {
        for (int t : outside(0, 3)) {
            bad("put(" + t + ", 0, 1)", Edges::rich, x -> x.put(t, 0, 1));
        }
    }

    private static void putNothing() {
        nothing("put(3, 0, 1)", Edges::rich, x -> x.put(3, 0, 1));
    }

    private static void putBeyond() {
        for (int i : outside(0, 29)) {
            beyond("put(0, " + i + ", 1), of thirty", Edges::rich, x -> x.put(0, i, 1));
        }
        for (int i : outside(0, 59)) {
            beyond("put(2, " + i + ", 1), of sixty", Edges::rich, x -> x.put(2, i, 1));
        }
        for (int i : new int[] {-1, 0, 1}) {
            beyond("put(1, " + i + ", 1), of none", Edges::rich, x -> x.put(1, i, 1));
        }
    }

    private static void putInOrder() {
        bad("put(4, -1, 1)", Edges::rich, x -> x.put(4, -1, 1));
        nothing("put(3, -1, 1)", Edges::rich, x -> x.put(3, -1, 1));
        nothing("put(3, 60, 1)", Edges::rich, x -> x.put(3, 60, 1));
    }

    // ---- 10 fault

    private static PinDuties typed(int t, String signs) {
        PinDuties x = new PinDuties();
        type(x, t, signs);
        return x;
    }

    private static void faultOf(String signs, int want) {
        due("fault of \"" + signs + "\"", typed(3, signs).fault(3), want);
        if (want >= 0) {
            notNow("street of \"" + signs + "\"", () -> typed(3, signs), x -> x.street(3));
        } else {
            due("street of \"" + signs + "\", how many", typed(3, signs).street(3), typedPins(signs));
        }
    }

    private static int typedPins(String signs) {
        return signs.replace(" ", "").length() / 5;
    }

    private static void faultOfEachText() {
        PinDuties x = new PinDuties();
        type(x, 0, "p0010");
        type(x, 1, "x");
        type(x, 2, "p9");
        type(x, 3, "p0050");
        int[] want = {-9, 0, 2, 3};
        for (int t = 0; t <= 3; t++) {
            due("fault(" + t + ")", x.fault(t), want[t]);
        }
    }

    private static void faultNone() {
        faultOf("p0010", -9);
        faultOf("c9949", -9);
        faultOf(EIGHT, -9);
        none("fault(0)", Edges::rich, x -> x.fault(0));
    }

    private static void faultBad() {
        for (int t : outside(0, 3)) {
            bad("fault(" + t + ")", Edges::rich, x -> x.fault(t));
        }
    }

    private static void faultNothing() {
        nothing("fault(3)", Edges::rich, x -> x.fault(3));
        nothing("fault(0), of a new object", PinDuties::new, x -> x.fault(0));
    }

    // ---- 11 street

    private static void streetByEachText() {
        for (int t = 0; t <= 3; t++) {
            PinDuties x = typed(t, "b" + t + "124");
            due("street(" + t + ")", x.street(t), 1);
            told(x, "pin(0, 0)", x.pin(0, 0), 4);
            told(x, "pin(0, 1)", x.pin(0, 1), t);
            told(x, "pin(0, 4)", x.pin(0, 4), 4);
            x.put(t, 0, 'w');
            told(x, "pin(0, 0): what is put later does not matter", x.pin(0, 0), 4);
        }
    }

    private static void streetAsToldAtFirst() {
        PinDuties x = rich();
        due("street(0), anew", x.street(0), 6);
        int[] places = {0, 0, 1, 2, 3, 3};
        for (int k = 0; k < 6; k++) {
            told(x, "pin(" + k + ", 1)", x.pin(k, 1), places[k]);
            told(x, "pin(" + k + ", 6)", x.pin(k, 6), 0);
            told(x, "pin(" + k + ", 7)", x.pin(k, 7), 0);
        }
        due("count(1)", x.count(1), 0);
        due("count(3)", x.count(3), 0);
        due("count(4)", x.count(4), 63);
        due("count(5)", x.count(5), 0);
        due("count(6): rows stay", x.count(6), 5);
        due("count(7): texts stay", x.count(7), 3);
        type(x, 3, "m7348");
        due("street(3), of one", x.street(3), 1);
        due("count(4)", x.count(4), 1);
        for (int k = 1; k <= 7; k++) {
            due("pin(" + k + ", 0): no more", x.pin(k, 0), PinDuties.BAD);
        }
    }

    private static void streetWithoutDeeds() {
        PinDuties x = rich();
        x.street(0);
        due("count(2)", x.count(2), 0);
        due("undo(1)", x.undo(1), PinDuties.BAD);
        due("undo(0)", x.undo(0), 0);
        PinDuties y = walked("p0010", 40);
        y.street(0);
        due("count(2), behind forty", y.count(2), 0);
        due("lots(20, 1)", y.lots(20, 1) < 0 ? 1 : 0, 0);
        due("lots(20, 1), there is room again", y.lots(20, 1) < 0 ? 1 : 0, 0);
        due("count(2)", y.count(2), 40);
    }

    private static void streetKeepsNone() {
        PinDuties x = rich();
        x.keep(1);
        due("count(8)", x.count(8), 3);
        x.street(0);
        due("count(8)", x.count(8), 0);
        for (int k = 0; k <= 2; k++) {
            finds(x, "on(" + k + ")", x.on(k), 1);
        }
    }

    private static void streetOfOneToEight() {
        for (int many = 1; many <= 8; many++) {
            PinDuties x = typed(0, EIGHT.substring(0, 5 * many));
            due("street(0) of " + many, x.street(0), many);
            due("count(0)", x.count(0), many);
            due("count(4)", x.count(4), (1 << many) - 1);
            due("pin(" + many + ", 0)", x.pin(many, 0), PinDuties.BAD);
        }
    }

    private static void streetBad() {
        for (int t : outside(0, 3)) {
            bad("street(" + t + ")", Edges::rich, x -> x.street(t));
        }
    }

    private static void streetNothing() {
        nothing("street(3)", Edges::rich, x -> x.street(3));
        nothing("street(0), of a new object", PinDuties::new, x -> x.street(0));
    }

    private static void streetOfAFault() {
        notNow("street(1), of none", Edges::rich, x -> x.street(1));
        notNow("street(2), of sixty, no letter in the last place", Edges::rich, x -> x.street(2));
        String[] faults = {" ", "p001", "p0050", "x", EIGHT + "p0010", "p0010p"};
        for (String signs : faults) {
            notNow("street(3) of \"" + signs + "\"", () -> {
                PinDuties x = rich();
                type(x, 3, signs);
                return x;
            }, x -> x.street(3));
        }
    }

    private static void streetNothingAheadOfState() {
        PinDuties x = rich();
        type(x, 3, "x");
        due("street(3), a fault", x.street(3), PinDuties.STATE);
        nothing("street(3), missing", Edges::rich, y -> y.street(3));
        bad("street(4)", Edges::rich, y -> y.street(4));
    }

    // ---- the Terms

    private static void noStreetAtFirst() {
        PinDuties x = new PinDuties();
        due("count(0)", x.count(0), 0);
        type(x, 0, "p0010");
        due("count(0), typed alone", x.count(0), 0);
        due("pin(0, 0), typed alone", x.pin(0, 0), PinDuties.BAD);
        x.street(0);
        due("count(0)", x.count(0), 1);
    }

    private static void blanksAsManyAsWanted() {
        faultOf("   p0010", -9);
        faultOf("p0010   ", -9);
        faultOf(" p0010  c0010   l0010p0010 ", -9);
        faultOf(" ".repeat(55) + "p0010", -9);
        faultOf("p0010" + " ".repeat(55), -9);
        faultOf("p0010" + " ".repeat(50) + "c0010", -9);
        StringBuilder spread = new StringBuilder();
        for (int k = 0; k < 8; k++) {
            spread.append(" ").append(EIGHT, 5 * k, 5 * k + 5).append(" ");
        }
        faultOf(spread.toString(), -9);
        faultOf(EIGHT + " ".repeat(20), -9);
        faultOf(" ".repeat(20) + EIGHT, -9);
        PinDuties x = street("  p4010     c5010");
        told(x, "pin(0, 1)", x.pin(0, 1), 4);
        told(x, "pin(1, 1)", x.pin(1, 1), 5);
    }

    private static void noOtherBlanks() {
        for (int c : new int[] {0, 9, 10, 13, 31, 33, -96, -128, -1, 127}) {
            PinDuties x = typed(0, " p0010  ");
            x.put(0, 0, c);
            due("fault with " + c + " ahead", x.fault(0), 0);
            x.put(0, 0, 32);
            due("fault without", x.fault(0), -9);
            x.put(0, 7, c);
            due("fault with " + c + " behind", x.fault(0), 7);
        }
    }

    private static void blanksWithin() {
        faultOf("p 0010", 1);
        faultOf("p0 010", 2);
        faultOf("p00 10", 3);
        faultOf("p001 0", 4);
        faultOf("c0010 p 0010", 7);
        faultOf("c0010 p001 0", 10);
        faultOf("c0010 p001 ", 10);
    }

    private static void onePinToEight() {
        faultOf("", 0);
        for (int many = 1; many <= 8; many++) {
            faultOf(EIGHT.substring(0, 5 * many), -9);
        }
        faultOf(EIGHT + "p0010", 40);
    }

    private static void pinsAsTheyCome() {
        PinDuties x = street(EIGHT);
        int[] kinds = {0, 1, 2, 3, 4, 5, 0, 1};
        int[] places = {0, 1, 2, 3, 4, 5, 6, 9};
        int[] longs = {1, 2, 3, 4, 1, 2, 3, 4};
        int[] lucks = {0, 1, 2, 3, 4, 5, 6, 9};
        for (int k = 0; k < 8; k++) {
            told(x, "pin(" + k + ", 0)", x.pin(k, 0), kinds[k]);
            told(x, "pin(" + k + ", 1)", x.pin(k, 1), places[k]);
            told(x, "pin(" + k + ", 2)", x.pin(k, 2), ((1 << longs[k]) - 1) << places[k]);
            told(x, "pin(" + k + ", 3)", x.pin(k, 3), longs[k]);
            told(x, "pin(" + k + ", 4)", x.pin(k, 4), lucks[k]);
        }
    }

    private static void eachLetter() {
        String letters = "pclmbw";
        for (int c = -128; c <= 127; c++) {
            int kind = c < 0 ? -1 : letters.indexOf((char) c);
            PinDuties x = typed(0, "w0010x9010");
            x.put(0, 5, c);
            // A blank is no fault itself, but the figure behind it is no letter.
            due("fault with the letter " + c, x.fault(0), kind >= 0 ? -9 : c == 32 ? 6 : 5);
            if (kind >= 0) {
                x.street(0);
                told(x, "pin(1, 0) with the letter " + c, x.pin(1, 0), kind);
            }
        }
    }

    private static void figures(int sign, int low, int high) {
        for (int c = -128; c <= 127; c++) {
            PinDuties x = typed(0, "w0010p0010");
            x.put(0, 5 + sign, c);
            boolean fits = c >= '0' + low && c <= '0' + high;
            due("fault with " + c + " for sign " + sign, x.fault(0), fits ? -9 : 5 + sign);
            if (fits) {
                x.street(0);
                // What pin() tells of a PLACE, HOURS, how LONG, LUCK bears the numbers of the signs.
                told(x, "pin(1, " + sign + ")", x.pin(1, sign), sign == 2 ? 1 << (c - '0') : c - '0');
            }
        }
    }

    private static void oneFigureEach() {
        faultOf("p00100", 5);
        faultOf("p00101", 5);
        faultOf("p0010 0", 6);
        faultOf("pp0010", 1);
    }

    private static void firstFault() {
        faultOf("p0x50", 2);
        faultOf("p0010 x0050", 6);
        faultOf("p0050x", 3);
        faultOf("x", 0);
        faultOf("xp0010", 0);
        faultOf("p0010" + " ".repeat(54) + "x", 59);
    }

    private static void noneSuch() {
        faultOf("P0010", 0);
        faultOf("00010", 0);
        faultOf("pa010", 1);
        faultOf("p0a10", 2);
        faultOf("p0000", 3);
        faultOf("p0050", 3);
        faultOf("p001p", 4);
        faultOf("p001-", 4);
    }

    private static void ninthPin() {
        faultOf(EIGHT + "p0010", 40);
        faultOf(EIGHT + " p0010", 41);
        faultOf(EIGHT + "     p0010", 45);
        faultOf("   " + EIGHT + "p0010", 43);
        faultOf(EIGHT + "p", 40);
        faultOf(EIGHT + " ".repeat(19) + "p", 59);
        faultOf(EIGHT + "p00", 40);
    }

    private static void endTooEarly() {
        faultOf("p", 1);
        faultOf("p0", 2);
        faultOf("p00", 3);
        faultOf("p001", 4);
        faultOf("  p001", 6);
        faultOf("p0010c", 6);
        faultOf("p0010 c001", 10);
        faultOf(EIGHT.substring(0, 39), 39);
        faultOf(" ".repeat(56) + "p001", 60);
    }

    private static void blanksAlone() {
        for (int n = 0; n <= 60; n += 5) {
            faultOf(" ".repeat(n), n);
        }
        faultOf(" ", 1);
    }

    private static void hoursOfADay() {
        for (int hour = 0; hour <= 9; hour++) {
            for (int many = 1; many <= 4; many++) {
                PinDuties x = street("p0" + hour + many + "0");
                told(x, "pin(0, 2)", x.pin(0, 2), ((1 << many) - 1) << hour);
            }
        }
        PinDuties x = street("p0940");
        x.pick(0);
        both(x, "busy(): 9 to 12", x.busy(), 0x1e00, 0);
    }
}
