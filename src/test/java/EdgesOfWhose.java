import java.util.Arrays;

/** The edges of promises 28 to 32: whose day it was, kinds, the next question, lucks, by turns. */
final class EdgesOfWhose extends Edges {
    private static final int LEAST = Integer.MIN_VALUE, GREATEST = Integer.MAX_VALUE;
    private static final String ALIKE = "p0041p0041p0041p0041p0041p0041p0041p0041";

    static void all() {
        promise(28);
        sentence("Sets of PINS that were not SWEPT,", EdgesOfWhose::whoseNotSwept);
        sentence("whose HOURS are just as told by a ROW", EdgesOfWhose::whoseJustAsTold);
        sentence("(13 numbers: 1: busy, 0: not, -9: not told):", EdgesOfWhose::whoseFirstAndLastHour);
        sentence("-9: not told): how many;", EdgesOfWhose::whoseNothingTold);
        sentence("the least number by asked().", EdgesOfWhose::whoseLeastNumber);
        sentence("NONE: none.", EdgesOfWhose::whoseNone);
        sentence("BAD;", EdgesOfWhose::whoseBad);
        sentence("STATE: no PINS;", EdgesOfWhose::whoseNoPins);
        sentence("NOTHING;", EdgesOfWhose::whoseNothing);
        sentence("SIZE: not 13;", EdgesOfWhose::whoseSize);
        sentence("UNLIKE.", EdgesOfWhose::whoseUnlike);
        sentence("(In this order.)", EdgesOfWhose::whoseInOrder);
        promise(29);
        sentence("KINDS (bits) that a PIN can be of by a ROW of pairs", EdgesOfWhose::kindsByPairs);
        sentence("(a LUCK 0 .. 9, what it was WORTH with it, -20 .. 60),", EdgesOfWhose::kindsAtTheEnds);
        sentence("its HOURS as they are", EdgesOfWhose::kindsByHours);
        sentence("(of a ROW without places all KINDS).", EdgesOfWhose::kindsOfNoPairs);
        sentence("BAD;", () -> pairsBad(false));
        sentence("NOTHING;", () -> pairsNothing(false));
        sentence("SIZE: not by pairs;", () -> pairsSize(false));
        sentence("UNLIKE.", () -> pairsUnlike(false));
        sentence("(In this order.)", () -> pairsInOrder(false));
        testLucksAndDuel();
    }

    private static void testLucksAndDuel() {
        promise(30);
        sentence("The LUCK to ask by which these KINDS are told apart best:", EdgesOfWhose::testApart);
        sentence("the greatest part of those that are WORTH alike is least (the first);", EdgesOfWhose::testTheFirst);
        sentence("that part by asked().", EdgesOfWhose::testGreatestPart);
        sentence("NONE: there is no KIND.", EdgesOfWhose::testNone);
        sentence("BAD;", () -> pairsBad(true));
        sentence("NOTHING;", () -> pairsNothing(true));
        sentence("SIZE;", () -> pairsSize(true));
        sentence("UNLIKE.", () -> pairsUnlike(true));
        sentence("(In this order.)", () -> pairsInOrder(true));
        promise(31);
        sentence("LUCK (bits 0 .. 9) by which a PIN is WORTH v", EdgesOfWhose::lucksOfEachKind);
        sentence("(-20 .. 60).", EdgesOfWhose::lucksAtTheEnds);
        sentence("BAD.", EdgesOfWhose::lucksBad);
        promise(32);
        sentence("By n (0 .. 4) turns in all", EdgesOfWhose::duelByEachNumber);
        sentence("one picks up a PIN that lies (anywhere),", EdgesOfWhose::duelAnywhere);
        sentence("which CLASHES with none that it picked up so", EdgesOfWhose::duelClashing);
        sentence("(those HELD do not matter),", EdgesOfWhose::duelHeld);
        sentence("or none, then another one does:", EdgesOfWhose::duelOrNone);
        sentence("what those of the first are WORTH less those of the second, and 500,", EdgesOfWhose::duelLess);
        sentence("each wanting as much for itself less the other one as can be.", EdgesOfWhose::duelWanting);
        sentence("BAD;", EdgesOfWhose::duelBad);
        sentence("STATE: no PINS.", EdgesOfWhose::duelNoPins);
    }

    // ---- 28 whose

    /** Thirteen hours by signs: 1, 0, ? (not told). */
    private static PinDuties hours(PinDuties x, String signs) {
        int[] values = new int[13];
        for (int i = 0; i < 13; i++) {
            values[i] = signs.charAt(i) == '?' ? -9 : signs.charAt(i) - '0';
        }
        fill(x, 5, values);
        return x;
    }

    private static void whoseIs(PinDuties x, String signs, int many, int least) {
        hours(x, signs);
        both(x, "whose(5) by " + signs, x.whose(5), many, least);
    }

    private static void whoseNotSwept() {
        PinDuties x = street("p0011p0011p1011");
        whoseIs(x, "1????????????", 7, 1);
        x.pick(0);
        whoseIs(x, "1????????????", 7, 1);
        x.sweep();
        whoseIs(x, "1????????????", 3, 1);
        x.drop(0);
        x.sweep();
        whoseIs(x, "1????????????", 1, 4);
        whoseIs(x, "?????????????", 2, 0);
        x.step(1);
        x.sweep();
        whoseIs(x, "?????????????", 1, 0);
        whoseIs(x, "0000000000000", 1, 0);
        none("whose(5), all swept", () -> hours(swept(), "1????????????"), y -> y.whose(5));
    }

    private static PinDuties swept() {
        PinDuties x = street("p0011");
        x.sweep();
        return x;
    }

    private static void whoseJustAsTold() {
        PinDuties x = street("p0121p0211p0131p9941");
        whoseIs(x, "0110000000000", 2, 1);
        whoseIs(x, "0111000000000", 4, 4);
        whoseIs(x, "0111000001111", 4, 12);
        whoseIs(x, "01?1000000000", 4, 4);
        whoseIs(x, "??1?????????0", 7, 1);
        none("whose(5), an hour too many", () -> hours(street("p0121"), "0111000000000"), y -> y.whose(5));
        none("whose(5), an hour too few", () -> hours(street("p0121"), "0100000000000"), y -> y.whose(5));
        aside("whose(3)", Edges::rich, y -> y.whose(3));
    }

    private static void whoseFirstAndLastHour() {
        PinDuties x = street("p0011p0941");
        whoseIs(x, "1????????????", 2, 1);
        whoseIs(x, "0????????????", 2, 0);
        whoseIs(x, "????????????1", 2, 2);
        whoseIs(x, "????????????0", 2, 0);
        whoseIs(x, "1???????????1", 1, 3);
        whoseIs(x, "1000000001111", 1, 3);
    }

    private static void whoseNothingTold() {
        for (int many = 1; many <= 8; many++) {
            PinDuties x = street(ALIKE.substring(0, 5 * many));
            whoseIs(x, "?????????????", 1 << many, 0);
            whoseIs(x, "1????????????", (1 << many) - 1, 1);
            whoseIs(x, "0????????????", 1, 0);
        }
    }

    private static void whoseLeastNumber() {
        PinDuties x = street("p0911p0111p0021p0011");
        whoseIs(x, "11???????????", 10, 4);
        whoseIs(x, "110000000????", 10, 4);
        whoseIs(x, "1100000000000", 5, 4);
        whoseIs(x, "01???????????", 2, 2);
        whoseIs(x, "?????????1???", 8, 1);
    }

    private static void whoseNone() {
        none("whose(5)", () -> {
            PinDuties x = hours(street("p0011"), "????????????1");
            x.pin(0, 4);
            return x;
        }, x -> x.whose(5));
        due("whose(5)", hours(street("p0011"), "????????????1").whose(5), -9);
    }

    private static void whoseBad() {
        for (int r : outside(0, 5)) {
            bad("whose(" + r + ")", Edges::rich, x -> x.whose(r));
        }
    }

    private static void whoseNoPins() {
        notNow("whose(5), no pins", () -> hours(new PinDuties(), "?????????????"), x -> x.whose(5));
    }

    private static void whoseNothing() {
        nothing("whose(5)", Edges::rich, x -> x.whose(5));
    }

    private static PinDuties richWith(int... values) {
        PinDuties x = rich();
        fill(x, 5, values);
        return x;
    }

    private static void whoseSize() {
        for (int n : new int[] {0, 1, 12, 14, 26, 40}) {
            size("whose(5) of " + n, () -> richWith(new int[n]), x -> x.whose(5));
        }
        due("whose(5) of 13", richWith(new int[13]).whose(5), 1);
    }

    private static void whoseUnlike() {
        for (int v : new int[] {2, -1, -8, -10, 9, 256, 257, LEAST, GREATEST}) {
            for (int i : new int[] {0, 6, 12}) {
                int[] values = new int[13];
                values[i] = v;
                unlike("whose(5) with " + v + " at " + i, () -> richWith(values), x -> x.whose(5));
            }
        }
    }

    private static void whoseInOrder() {
        bad("whose(6), no pins", PinDuties::new, x -> x.whose(6));
        notNow("whose(5), no pins, missing", PinDuties::new, x -> x.whose(5));
        notNow("whose(5), no pins, unlike numbers, not 13", () -> {
            PinDuties x = new PinDuties();
            fill(x, 5, 7, 7);
            return x;
        }, x -> x.whose(5));
        size("whose(5), unlike numbers, not 13", () -> richWith(7, 7), x -> x.whose(5));
        size("whose(5), unlike numbers, more than 13", () -> richWith(7, 0, 0, 0, 0, 0, 0, 0, 0, 0, 0, 0, 0, 7),
            x -> x.whose(5));
    }

    // ---- 29 kinds

    // Hours 4, 5: a COLD one luck - 10, a LUNCH luck + 3, a MARE 2 luck, a BRIDE 2 luck + 6, a WRIT luck - 12.
    private static void kindsAre(int want, int... pairs) {
        for (String letter : new String[] {"p", "c", "l", "m", "b", "w"}) {
            PinDuties x = street(letter + "0427");
            fill(x, 0, pairs);
            due("kinds() by " + Arrays.toString(pairs), x.kinds(0, 0), want);
            due("asked(), not told by kinds()", x.asked(), 0);
        }
    }

    private static void kindsByPairs() {
        kindsAre(1, 3, 3);
        kindsAre(2, 3, -7);
        kindsAre(12, 3, 6);
        kindsAre(16, 3, 12);
        kindsAre(32, 3, -9);
        kindsAre(9, 0, 0);
        kindsAre(0, 3, 4);
        kindsAre(8, 3, 6, 0, 0);
        kindsAre(4, 3, 6, 4, 7);
        kindsAre(0, 3, 6, 3, 7);
        kindsAre(0, 4, 7, 3, 3);
        kindsAre(4, 4, 7, 4, 7, 4, 7);
        aside("kinds(2, 4)", Edges::rich, x -> x.kinds(2, 4));
    }

    private static void kindsAtTheEnds() {
        kindsAre(1, 9, 9);
        kindsAre(16, 9, 24);
        kindsAre(32, 0, -12);
        kindsAre(0, 0, -20);
        kindsAre(0, 9, 60);
        PinDuties x = street("p0944");
        fill(x, 0, 9, 36);
        due("kinds(): a MARE's most", x.kinds(0, 0), 8);
        fill(x, 0, 0, -14);
        due("kinds(): a WRIT's least", x.kinds(0, 0), 32);
        int[] forty = new int[40];
        fill(x, 0, forty);
        due("kinds(): twenty pairs", x.kinds(0, 0), 29);
        forty[39] = 1;
        fill(x, 0, forty);
        due("kinds(): twenty pairs, the last of them another", x.kinds(0, 0), 0);
    }

    private static void kindsByHours() {
        PinDuties x = street("w0114p0514p0614p0424");
        fill(x, 0, 2, 2);
        int[] want = {13, 9, 13, 1};
        for (int k = 0; k < 4; k++) {
            due("kinds(" + k + ", 0)", x.kinds(k, 0), want[k]);
        }
        x.pick(0);
        x.sweep();
        due("kinds(0, 0), held", x.kinds(0, 0), 13);
        due("kinds(1, 0), swept", x.kinds(1, 0), 9);
    }

    private static void kindsOfNoPairs() {
        kindsAre(63);
        PinDuties x = rich();
        for (int k = 0; k <= 5; k++) {
            due("kinds(" + k + ", 1)", x.kinds(k, 1), 63);
        }
    }

    // ---- what kinds() and test() are refused by is the same

    private static int ask(PinDuties x, boolean byTest, int k, int r) {
        return byTest ? x.test(k, r) : x.kinds(k, r);
    }

    private static void pairsBad(boolean byTest) {
        for (int k : outside(0, 5)) {
            bad("of pin " + k + ", of six", Edges::rich, x -> ask(x, byTest, k, 4));
        }
        for (int r : outside(0, 5)) {
            bad("by row " + r, Edges::rich, x -> ask(x, byTest, 0, r));
        }
        bad("no pins", PinDuties::new, x -> ask(x, byTest, 0, 0));
    }

    private static void pairsNothing(boolean byTest) {
        nothing("by row 5", Edges::rich, x -> ask(x, byTest, 0, 5));
    }

    private static void pairsSize(boolean byTest) {
        for (int n : new int[] {1, 3, 13, 39}) {
            size("by a row of " + n, () -> richWith(new int[n]), x -> ask(x, byTest, 0, 5));
        }
        due("by a pair, behind which others were (1: not refused)", ask(shortened(), byTest, 0, 5) >= 0 ? 1 : 0, 1);
        for (int n : new int[] {0, 2, 4, 40}) {
            due("by a row of " + n + " (1: not refused)", ask(richWith(new int[n]), byTest, 0, 5) >= 0 ? 1 : 0, 1);
        }
    }

    // What a longer row held ahead is no part of it.
    private static PinDuties shortened() {
        PinDuties x = richWith(0, 0, 77, 77, 77, 77);
        x.row(5, 2);
        return x;
    }

    private static void pairsUnlike(boolean byTest) {
        for (int luck : outside(0, 9)) {
            unlike("luck " + luck, () -> richWith(luck, 0), x -> ask(x, byTest, 0, 5));
            unlike("luck " + luck + " later", () -> richWith(3, 3, luck, 0), x -> ask(x, byTest, 0, 5));
        }
        for (int v : outside(-20, 60)) {
            unlike("worth " + v, () -> richWith(0, v), x -> ask(x, byTest, 0, 5));
            unlike("worth " + v + " later", () -> richWith(3, 4, 0, v), x -> ask(x, byTest, 0, 5));
        }
    }

    private static void pairsInOrder(boolean byTest) {
        bad("no such row, ahead of all", Edges::rich, x -> ask(x, byTest, 0, 6));
        bad("no such pin, ahead of NOTHING", Edges::rich, x -> ask(x, byTest, 6, 5));
        bad("no such pin, ahead of SIZE", Edges::rich, x -> ask(x, byTest, 6, 0));
        bad("no such pin, ahead of UNLIKE", () -> richWith(77, 77), x -> ask(x, byTest, -1, 5));
        size("not by pairs, ahead of UNLIKE", () -> richWith(77, 77, 77), x -> ask(x, byTest, 0, 5));
    }

    // ---- 30 test

    private static void testIs(String signs, int luck, int part, int... pairs) {
        PinDuties x = street(signs);
        fill(x, 0, pairs);
        both(x, "test() of " + signs + " by " + Arrays.toString(pairs), x.test(0, 0), luck, part);
    }

    private static void testApart() {
        // Hours 4, 5: at luck 0 a PIN is worth as much as a MARE, at 3 a LUNCH as a MARE, at 1 no two are alike.
        testIs("p0427", 1, 1);
        testIs("p0427", 1, 1, 0, 0);
        // Hour 1 alone: PIN, LUNCH, MARE are always alike, a BRIDE at luck 0, too.
        testIs("p0117", 1, 3);
        testIs("p0117", 1, 3, 0, 0);
        // Hours 1 to 4: PIN and LUNCH are always alike.
        testIs("p0147", 1, 2);
        aside("test(2, 4)", Edges::rich, x -> x.test(2, 4));
    }

    private static void testTheFirst() {
        testIs("p0427", 0, 1, 3, 6);
        testIs("p0427", 0, 1, 1, 1);
        testIs("p0127", 0, 2, 4, 8);
        testIs("p0127", 1, 2);
        testIs("p0117", 0, 3, 7, 7);
    }

    private static void testGreatestPart() {
        // Hours 1, 2: PIN and LUNCH, MARE and BRIDE are always alike, all four at luck 0.
        testIs("p0127", 1, 2);
        testIs("p0127", 1, 2, 0, 0);
        testIs("p0127", 0, 2, 7, 7);
        testIs("c0127", 0, 1, 7, -3);
        testIs("p0427", 0, 1, 3, -9);
        // Hour 1: by luck 7 worth 7 are PIN, LUNCH, MARE.
        testIs("b0117", 0, 3, 7, 7);
    }

    private static void testNone() {
        none("test(0, 5)", () -> richWith(3, 59), x -> x.test(0, 5));
        none("test(0, 5), by pairs that do not go together", () -> richWith(3, 3, 3, 4), x -> x.test(0, 5));
    }

    // ---- 31 lucks

    private static void lucksOfEachKind() {
        PinDuties x = street("p0421c0421l0421m0421b0421w0421");
        for (int luck = 0; luck <= 9; luck++) {
            int[] worths = {luck, luck - 10, luck + 3, 2 * luck, 2 * luck + 6, luck - 12};
            for (int k = 0; k <= 5; k++) {
                due("lucks(" + k + ", " + worths[k] + ")", x.lucks(k, worths[k]), 1 << luck);
            }
        }
        int[] below = {-1, -11, 2, -1, 5, -13};
        int[] above = {10, 0, 13, 19, 25, -2};
        for (int k = 0; k <= 5; k++) {
            due("lucks(" + k + ", " + below[k] + ")", x.lucks(k, below[k]), 0);
            due("lucks(" + k + ", " + above[k] + ")", x.lucks(k, above[k]), 0);
        }
        due("asked(), not told by lucks()", x.asked(), 0);
        aside("lucks(0, 8)", Edges::rich, y -> y.lucks(0, 8));
    }

    private static void lucksAtTheEnds() {
        PinDuties x = street("p0421w0041m0041b0511");
        due("lucks(0, -20)", x.lucks(0, -20), 0);
        due("lucks(0, 60)", x.lucks(0, 60), 0);
        due("lucks(1, -14)", x.lucks(1, -14), 1);
        due("lucks(2, 36)", x.lucks(2, 36), 512);
        due("lucks(3, 24)", x.lucks(3, 24), 512);
        due("lucks(3, 7)", x.lucks(3, 7), 0);
    }

    private static void lucksBad() {
        for (int v : outside(-20, 60)) {
            bad("lucks(0, " + v + ")", Edges::rich, x -> x.lucks(0, v));
        }
        for (int k : outside(0, 5)) {
            bad("lucks(" + k + ", 0), of six", Edges::rich, x -> x.lucks(k, 0));
        }
        bad("lucks(0, 0), no pins", PinDuties::new, x -> x.lucks(0, 0));
    }

    // ---- 32 duel

    private static void duels(String signs, int... want) {
        for (int n = 0; n < want.length; n++) {
            final int turns = n;
            due("duel(" + n + ") of " + signs, street(signs).duel(n), 500 + want[n]);
            aside("duel(" + n + ") of " + signs, () -> street(signs), x -> x.duel(turns));
        }
    }

    private static void duelByEachNumber() {
        duels("p0019p0118p0217p0316p0415", 0, 9, 1, 8, 2);
        duels("p0011", 0, 1, 1, 1, 1);
        due("asked(), not told by duel()", street("p0011").asked(), 0);
    }

    private static void duelAnywhere() {
        duels("p9019p5118p1217", 0, 9, 1, 8, 8);
        PinDuties x = street("p0019p9118p0217");
        x.sweep();
        due("duel(1): not the swept", x.duel(1), 508);
        due("duel(2): none for the second", x.duel(2), 508);
        at(x, 9);
        x.sweep();
        for (int n = 0; n <= 4; n++) {
            due("duel(" + n + "), all swept", x.duel(n), 500);
        }
    }

    private static void duelClashing() {
        // The first one's second pick would clash with its own, not with the other one's.
        duels("p0019p0018p0017", 0, 9, 1, 1, 1);
        // Who takes the one of 8 first can take one of hour 0 later, too.
        duels("p0019p0118p0017", 0, 9, 1, 6, 6);
    }

    private static void duelHeld() {
        PinDuties x = street("p0041p0019p0118");
        x.pick(0);
        due("duel(1), held ones clash with all", x.duel(1), 509);
        due("duel(2)", x.duel(2), 501);
        x.drop(0);
        due("duel(3), dropped", x.duel(3), 501);
        pick(x, 0, 1, 2);
        due("duel(4), all held", x.duel(4), 500);
    }

    private static void duelOrNone() {
        duels("c0019w0149", 0, 0, 0, 0, 0);
        duels("c0019p0112", 0, 2, 2, 2, 2);
        duels("p0010", 0, 0, 0, 0, 0);
    }

    private static void duelLess() {
        PinDuties x = street("m0049m0049");
        due("duel(1)", x.duel(1), 536);
        due("duel(2)", x.duel(2), 500);
        PinDuties y = street("m0049m0049m4449m4449");
        due("duel(3)", y.duel(3), 536);
        due("duel(4)", y.duel(4), 500);
        duels("p0019p0018p0017p0016", 0, 9, 1, 1, 1);
    }

    private static void duelWanting() {
        // Who takes the mare can take no other pin, so by 4 turns another one is the better first pick.
        duels("m0042p0015p0115p0215", 0, 8, 3, 3, 2);
        duels("p0019p0018p0111", 0, 9, 1, 2, 0);
        duels("p0012p0112p0212p0312", 0, 2, 0, 2, 0);
    }

    private static void duelBad() {
        for (int n : outside(0, 4)) {
            bad("duel(" + n + ")", Edges::rich, x -> x.duel(n));
            bad("duel(" + n + "), no pins", PinDuties::new, x -> x.duel(n));
        }
    }

    private static void duelNoPins() {
        for (int n = 0; n <= 4; n++) {
            final int turns = n;
            notNow("duel(" + n + ")", PinDuties::new, x -> x.duel(turns));
        }
    }
}
