/** Promises 26 and 27: the shortest way, the best within so many steps. */
public final class WaysTest {
    private static final int[] PLACES = {0, 2, 4, 5, 7, 9};

    public static void main(String[] args) {
        walk();
        walkFromEachPlace();
        walkToDropped();
        walkRefused();
        within();
        withinByHeld();
        withinOfLikeGood();
        withinRefused();
        Check.end();
    }

    // Promise 26
    private static void walk() {
        PinDuties x = new PinDuties();
        Check.both(x, "walk(0), no street", x.walk(0), 0, 0);
        x = Check.street("p2011p4011p6011p9011");
        Check.both(x, "walk(0)", x.walk(0), 0, 0);
        Check.both(x, "walk(1)", x.walk(1), 2, 2);
        Check.both(x, "walk(15)", x.walk(15), 9, 9);
        for (int i = 0; i < 4; i++) {
            x.step(1);
        }
        Check.both(x, "walk(0) from 4", x.walk(0), 0, 4);
        Check.both(x, "walk(2) from 4", x.walk(2), 0, 4);
        Check.both(x, "walk(1) from 4: back", x.walk(1), 2, 2);
        Check.both(x, "walk(7) from 4: of both the lower", x.walk(7), 6, 2);
        Check.both(x, "walk(13) from 4: the lower first", x.walk(13), 9, 9);
        x.step(1);
        x.step(1);
        Check.both(x, "walk(14) from 6: the higher at last", x.walk(14), 7, 9);
        Check.both(x, "walk(9) from 6: of both the higher first", x.walk(9), 10, 2);
        Check.both(x, "walk(3) from 6: on its way", x.walk(3), 4, 2);
        Check.due("count(1): aside", x.count(1), 6);
    }

    // Against all ways: first to one end of a set's places, then to the other.
    private static void walkFromEachPlace() {
        PinDuties x = Check.street("p0011p2011p4011p5011p7011p9011");
        for (int here = 0; here <= 9; here++) {
            for (int set = 1; set < 64; set++) {
                if (set % 7 == here % 7 || set == 63) {
                    due(x, here, set);
                }
            }
            x.step(1);
        }
    }

    private static void due(PinDuties x, int here, int set) {
        int low = 9;
        int high = 0;
        for (int k = 0; k < 6; k++) {
            if ((set >> k & 1) != 0) {
                low = Math.min(low, PLACES[k]);
                high = Math.max(high, PLACES[k]);
            }
        }
        int endsLow = Math.abs(high - here) + high - low;
        int endsHigh = Math.abs(low - here) + high - low;
        int at = endsLow <= endsHigh ? low : high;
        Check.both(x, "walk(" + set + ") from " + here, x.walk(set), Math.min(endsLow, endsHigh), at);
    }

    private static void walkToDropped() {
        PinDuties x = Check.street("p0011p1011");
        x.pick(0);
        for (int i = 0; i < 5; i++) {
            x.step(1);
        }
        x.drop(0);
        x.step(-1);
        Check.both(x, "walk(1): where it was dropped", x.walk(1), 1, 5);
        Check.both(x, "walk(3)", x.walk(3), 5, 1);
    }

    private static void walkRefused() {
        PinDuties x = new PinDuties();
        Check.due("walk(1), no street", x.walk(1), PinDuties.BAD);
        Check.due("walk(-1), no street", x.walk(-1), PinDuties.BAD);
        x = Check.street("p0011p0111p0211");
        Check.due("walk(8)", x.walk(8), PinDuties.BAD);
        Check.due("walk(-1)", x.walk(-1), PinDuties.BAD);
        Check.due("walk(256)", x.walk(256), PinDuties.BAD);
        x.pick(1);
        Check.due("walk(2), held", x.walk(2), PinDuties.STATE);
        Check.due("walk(7), one of them held", x.walk(7), PinDuties.STATE);
        Check.due("walk(10): BAD first", x.walk(10), PinDuties.BAD);
        Check.both(x, "walk(5)", x.walk(5), 0, 0);
        x.sweep();
        Check.due("walk(1), swept", x.walk(1), PinDuties.STATE);
        PinDuties y = Check.street("p0011p0011p0011p0011p0011p0011p0011p3011");
        Check.both(y, "walk(255)", y.walk(255), 3, 3);
        Check.due("walk(256)", y.walk(256), PinDuties.BAD);
    }

    // Promise 27
    private static void within() {
        PinDuties x = Check.street("p1015p3116p3217p5018p9319c0919");
        int[] want = {0, 5, 5, 18, 18, 21, 21, 21, 21, 30, 30};
        int[] sets = {0, 1, 1, 7, 7, 14, 14, 14, 14, 30, 30};
        for (int n = 0; n <= 10; n++) {
            Check.both(x, "within(" + n + ")", x.within(n), want[n], sets[n]);
        }
        Check.both(x, "within(20)", x.within(20), 30, 30);
        x.step(1);
        x.step(1);
        Check.both(x, "within(0) from 2", x.within(0), 0, 0);
        Check.both(x, "within(1) from 2", x.within(1), 13, 6);
        Check.both(x, "within(2) from 2", x.within(2), 13, 6);
        Check.both(x, "within(3) from 2: forth and back, or on", x.within(3), 21, 14);
        Check.due("count(2): aside", x.count(2), 2);
    }

    private static void withinByHeld() {
        PinDuties x = Check.street("p0021p0118p0219p1217");
        Check.both(x, "within(0)", x.within(0), 17, 6);
        x.pick(0);
        Check.both(x, "within(0): none that clashes with what is held", x.within(0), 9, 4);
        x.sweep();
        Check.both(x, "within(0): none swept", x.within(0), 0, 0);
        Check.both(x, "within(1)", x.within(1), 7, 8);
        x.step(1);
        x.drop(0);
        Check.both(x, "within(0): where it was dropped", x.within(0), 8, 9);
    }

    private static void withinOfLikeGood() {
        PinDuties x = Check.street("p1012p0012p0110c0219");
        Check.both(x, "within(0)", x.within(0), 2, 2);
        Check.both(x, "within(1): of both the least number", x.within(1), 2, 1);
        PinDuties y = Check.street("c0019p0110");
        Check.both(y, "within(20): none", y.within(20), 0, 0);
    }

    private static void withinRefused() {
        PinDuties x = new PinDuties();
        Check.due("within(0), no pins", x.within(0), PinDuties.STATE);
        Check.due("within(21): BAD first", x.within(21), PinDuties.BAD);
        Check.due("within(-1): BAD first", x.within(-1), PinDuties.BAD);
        PinDuties y = Check.street("p0019");
        Check.due("within(21)", y.within(21), PinDuties.BAD);
        Check.due("within(-1)", y.within(-1), PinDuties.BAD);
    }
}
