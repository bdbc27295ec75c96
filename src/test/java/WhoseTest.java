/** Promises 28 to 31: whose day it was, kinds, the next question, lucks. */
public final class WhoseTest {
    public static void main(String[] args) {
        whose();
        whoseNotSwept();
        whoseRefused();
        kinds();
        pairsRefused();
        test();
        lucks();
        Check.end();
    }

    /** Thirteen hours by signs: 1, 0, ? (not told). */
    private static void hours(PinDuties x, int r, String signs) {
        x.row(r, 13);
        for (int i = 0; i < 13; i++) {
            char c = signs.charAt(i);
            x.lay(r, i, c == '?' ? -9 : c - '0');
        }
    }

    // Promise 28
    private static void whose() {
        PinDuties x = Check.street("p0121p0211p0131p9941");
        hours(x, 0, "0110000000000");
        Check.both(x, "whose(0): one, with or without another", x.whose(0), 2, 1);
        hours(x, 0, "0111000000000");
        Check.both(x, "whose(0): clashing ones, too", x.whose(0), 4, 4);
        hours(x, 0, "0000000000000");
        Check.both(x, "whose(0): no pin", x.whose(0), 1, 0);
        hours(x, 0, "?????????????");
        Check.both(x, "whose(0): nothing told", x.whose(0), 16, 0);
        hours(x, 0, "????????????1");
        Check.both(x, "whose(0): the last hour", x.whose(0), 8, 8);
        hours(x, 5, "?0???????????");
        Check.both(x, "whose(5): by what is not", x.whose(5), 4, 0);
        hours(x, 5, "??1?????????0");
        Check.both(x, "whose(5)", x.whose(5), 7, 1);
        hours(x, 5, "1????????????");
        Check.told(x, "pin(3, 3)", x.pin(3, 3), 4);
        Check.due("whose(5): none", x.whose(5), PinDuties.NONE);
        Check.due("asked() stays with NONE", x.asked(), 4);
        Check.due("finding(): NONE is none", x.finding(), 0);
    }

    private static void whoseNotSwept() {
        PinDuties x = Check.street("p0011p0011p1011");
        x.pick(0);
        x.sweep();
        hours(x, 0, "1????????????");
        Check.both(x, "whose(0): held and lying, not swept", x.whose(0), 3, 1);
        x.drop(0);
        x.sweep();
        Check.both(x, "whose(0): the last one", x.whose(0), 1, 4);
        Check.due("finding(), none yet", x.finding(), 0);
    }

    private static void whoseRefused() {
        PinDuties x = new PinDuties();
        Check.due("whose(6), no pins: BAD first", x.whose(6), PinDuties.BAD);
        Check.due("whose(-1)", x.whose(-1), PinDuties.BAD);
        Check.due("whose(0), no pins: STATE ahead of NOTHING", x.whose(0), PinDuties.STATE);
        x = Check.street("p0011");
        Check.finds(x, "whose(0), missing", x.whose(0), 1);
        x.row(0, 12);
        x.lay(0, 0, 7);
        Check.finds(x, "whose(0): SIZE ahead of UNLIKE", x.whose(0), 5);
        x.row(0, 14);
        Check.finds(x, "whose(0), of 14", x.whose(0), 5);
        x.row(0, 0);
        Check.finds(x, "whose(0), of none", x.whose(0), 5);
        int[] unlike = {2, -1, -8, -10, Integer.MAX_VALUE};
        for (int v : unlike) {
            for (int i = 0; i < 13; i += 4) {
                x.row(0, 13);
                x.lay(0, i, v);
                Check.finds(x, "whose(0) with " + v + " at " + i, x.whose(0), 3);
            }
        }
    }

    // Promise 29
    private static void kinds() {
        // Hours 4, 5: a LUNCH is luck + 3, a MARE 2 luck, a BRIDE 2 luck + 6, a WRIT luck - 12.
        PinDuties x = Check.street("p0421l0121");
        x.row(0, 0);
        Check.due("kinds of no pair", x.kinds(0, 0), 63);
        int[][] pairs = {{3, 3}, {3, -7}, {3, 6}, {3, 12}, {3, -9}, {0, 0}, {6, 12}, {3, 60}, {0, -20}, {9, 24}};
        int[] want = {1, 2, 12, 16, 32, 9, 8, 0, 0, 16};
        for (int i = 0; i < pairs.length; i++) {
            Check.fill(x, 0, pairs[i]);
            Check.due("kinds by " + pairs[i][0] + ", " + pairs[i][1], x.kinds(0, 0), want[i]);
        }
        Check.fill(x, 5, 3, 6, 4, 7);
        Check.due("kinds by two pairs", x.kinds(0, 5), 4);
        Check.fill(x, 5, 3, 6, 4, 8);
        Check.due("kinds by two other pairs", x.kinds(0, 5), 8);
        Check.fill(x, 5, 3, 6, 3, 7);
        Check.due("kinds by pairs that do not go together", x.kinds(0, 5), 0);
        // Hours 1, 2: a LUNCH is a PIN's worth, a BRIDE a MARE's.
        Check.fill(x, 5, 4, 4);
        Check.due("kinds by other hours", x.kinds(1, 5), 5);
        Check.fill(x, 5, 4, 8);
        Check.due("kinds by other hours, twice", x.kinds(1, 5), 24);
        Check.due("asked(), not told by kinds()", x.asked(), 0);
        x.row(4, 40);
        Check.due("kinds by twenty pairs 0, 0", x.kinds(1, 4), 29);
    }

    private static int ask(PinDuties x, boolean byTest, int k, int r) {
        return byTest ? x.test(k, r) : x.kinds(k, r);
    }

    // What kinds() and test() are refused by is the same.
    private static void pairsRefused() {
        for (int i = 0; i < 2; i++) {
            boolean byTest = i == 1;
            String call = byTest ? "test" : "kinds";
            PinDuties x = new PinDuties();
            Check.due(call + "(0, 0), no pins", ask(x, byTest, 0, 0), PinDuties.BAD);
            x = Check.street("p0421l0121");
            Check.due(call + "(2, 0)", ask(x, byTest, 2, 0), PinDuties.BAD);
            Check.due(call + "(-1, 0)", ask(x, byTest, -1, 0), PinDuties.BAD);
            Check.due(call + "(0, 6)", ask(x, byTest, 0, 6), PinDuties.BAD);
            Check.due(call + "(0, -1)", ask(x, byTest, 0, -1), PinDuties.BAD);
            Check.due("finding(), none yet", x.finding(), 0);
            Check.finds(x, call + "(0, 0), missing", ask(x, byTest, 0, 0), 1);
            Check.fill(x, 0, 99, 1, 1);
            Check.finds(x, call + ": SIZE ahead of UNLIKE", ask(x, byTest, 0, 0), 5);
            x.row(0, 1);
            Check.finds(x, call + " of one", ask(x, byTest, 0, 0), 5);
            int[][] unlike = {{10, 0}, {-1, 0}, {0, 61}, {0, -21}, {3, 3, 10, 0}, {3, 3, 3, 61}, {3, 3, 3, -21}};
            for (int[] values : unlike) {
                Check.fill(x, 0, values);
                Check.finds(x, call + " of unlike numbers", ask(x, byTest, 0, 0), 3);
            }
        }
    }

    // Promise 30
    private static void test() {
        // Hours 4, 5: alike are PIN and MARE at luck 0, LUNCH and MARE at 3, MARE 6 and BRIDE never.
        PinDuties x = Check.street("p0421l0121p0111");
        x.row(0, 0);
        Check.both(x, "test of all kinds", x.test(0, 0), 1, 1);
        Check.fill(x, 0, 0, 0);
        Check.both(x, "test of PIN and MARE", x.test(0, 0), 1, 1);
        Check.fill(x, 0, 1, 1);
        Check.both(x, "test of PIN alone", x.test(0, 0), 0, 1);
        Check.fill(x, 0, 3, 6);
        Check.both(x, "test of LUNCH and MARE", x.test(0, 0), 0, 1);
        Check.fill(x, 0, 9, 24);
        Check.both(x, "test of one kind", x.test(0, 0), 0, 1);
        // Hours 1, 2: PIN and LUNCH, MARE and BRIDE are always alike.
        x.row(0, 0);
        Check.both(x, "test of pairs always alike", x.test(1, 0), 1, 2);
        Check.fill(x, 0, 4, 8);
        Check.both(x, "test of two always alike", x.test(1, 0), 0, 2);
        // Hour 1: PIN, LUNCH and MARE are always alike, a BRIDE at luck 0, too.
        x.row(0, 0);
        Check.both(x, "test of three always alike", x.test(2, 0), 1, 3);
        Check.fill(x, 0, 4, 60);
        Check.told(x, "pin(0, 3)", x.pin(0, 3), 2);
        Check.due("test of no kind", x.test(0, 0), PinDuties.NONE);
        Check.due("asked() stays with NONE", x.asked(), 2);
    }

    // Promise 31
    private static void lucks() {
        PinDuties x = Check.street("p0421c0421l0421m0421b0421w0421m0941");
        int[] pins = {0, 0, 0, 0, 1, 1, 2, 2, 3, 3, 3, 4, 4, 5, 5, 6, 6};
        int[] worths = {0, 9, 10, -1, -10, -1, 3, 12, 18, 7, 0, 24, 6, -12, -3, 36, 35};
        int[] want = {1, 512, 0, 0, 1, 512, 1, 512, 512, 0, 1, 512, 1, 1, 512, 512, 0};
        for (int i = 0; i < pins.length; i++) {
            Check.due("lucks(" + pins[i] + ", " + worths[i] + ")", x.lucks(pins[i], worths[i]), want[i]);
        }
        Check.due("lucks(4, 14)", x.lucks(4, 14), 16);
        Check.due("lucks(0, 60)", x.lucks(0, 60), 0);
        Check.due("lucks(0, -20)", x.lucks(0, -20), 0);
        Check.due("lucks(0, 61)", x.lucks(0, 61), PinDuties.BAD);
        Check.due("lucks(0, -21)", x.lucks(0, -21), PinDuties.BAD);
        Check.due("lucks(7, 0)", x.lucks(7, 0), PinDuties.BAD);
        Check.due("lucks(-1, 0)", x.lucks(-1, 0), PinDuties.BAD);
        Check.due("asked(), not told by lucks()", x.asked(), 0);
    }
}
