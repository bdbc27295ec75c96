/** Promises 12 to 14: what pins are, what they are worth. */
public final class PinTest {
    // Luck 6 each; hours 3 to 5, but for the LUNCH and the BRIDE behind, from 6 on.
    private static final String ALL = "p1336c2336l3336m4336b5336w6336l7626b8616";

    public static void main(String[] args) {
        pin();
        pinStates();
        hours();
        mark();
        markOfNoSuchKind();
        worth();
        Check.end();
    }

    // Promise 12
    private static void pin() {
        PinDuties x = Check.street(ALL);
        int[] kinds = {0, 1, 2, 3, 4, 5, 2, 4};
        int[] hours = {0x38, 0x38, 0x38, 0x38, 0x38, 0x38, 0xc0, 0x40};
        int[] longs = {3, 3, 3, 3, 3, 3, 2, 1};
        int[] worths = {6, -4, 9, 18, 18, -7, 6, 12};
        for (int k = 0; k < 8; k++) {
            int[] want = {kinds[k], k + 1, hours[k], longs[k], 6, worths[k], 0, 0};
            for (int what = 0; what < 8; what++) {
                Check.told(x, "pin(" + k + ", " + what + ")", x.pin(k, what), want[what]);
            }
        }
        Check.due("pin(0, 8)", x.pin(0, 8), PinDuties.BAD);
        Check.due("pin(0, -1)", x.pin(0, -1), PinDuties.BAD);
        Check.due("pin(8, 0)", x.pin(8, 0), PinDuties.BAD);
        Check.due("pin(-1, 0)", x.pin(-1, 0), PinDuties.BAD);
        Check.due("asked() stays, if refused", x.asked(), 0);
        PinDuties y = new PinDuties();
        Check.due("pin(0, 0) without a street", y.pin(0, 0), PinDuties.BAD);
    }

    private static void pinStates() {
        PinDuties x = Check.street("p0011p0211p0311");
        x.pick(0);
        Check.told(x, "pin(0, 1), held", x.pin(0, 1), -9);
        Check.told(x, "pin(0, 6), held", x.pin(0, 6), 1);
        Check.told(x, "pin(1, 6), not held", x.pin(1, 6), 0);
        x.sweep();
        Check.told(x, "pin(1, 1), swept", x.pin(1, 1), -9);
        Check.told(x, "pin(1, 7), swept", x.pin(1, 7), 1);
        Check.told(x, "pin(1, 6), swept", x.pin(1, 6), 0);
        Check.told(x, "pin(0, 7), held is not swept", x.pin(0, 7), 0);
        x.step(1);
        x.step(1);
        x.drop(0);
        Check.told(x, "pin(0, 1), dropped", x.pin(0, 1), 2);
        Check.told(x, "pin(0, 6), dropped", x.pin(0, 6), 0);
    }

    private static void hours() {
        for (int hour = 0; hour <= 9; hour++) {
            for (int many = 1; many <= 4; many++) {
                PinDuties x = Check.street("l0" + hour + many + "5b0" + hour + many + "5");
                Check.told(x, "pin(0, 2)", x.pin(0, 2), ((1 << many) - 1) << hour);
                boolean five = hour <= 5 && hour + many > 5;
                Check.told(x, "pin(0, 5) of " + hour + " for " + many, x.pin(0, 5), five ? 8 : 5);
                Check.told(x, "pin(1, 5) of " + hour + " for " + many, x.pin(1, 5), five ? 16 : 10);
            }
        }
    }

    // Promise 13
    private static void mark() {
        PinDuties x = Check.street(ALL);
        // By pin, then by kind 1 to 5; -3 is UNLIKE.
        int[][] want = {
            {-3, -3, -3, -3, -3}, {96, -3, -3, -3, -3}, {-3, 103, -3, -3, -3}, {-3, -3, 112, -3, -3},
            {-3, 112, -3, 109, -3}, {93, -3, -3, -3, 97}, {-3, 100, -3, -3, -3}, {-3, 106, -3, 106, -3}};
        for (int k = 0; k < 8; k++) {
            for (int kind = 1; kind <= 5; kind++) {
                int got = x.mark(k, kind);
                Check.due("mark(" + k + ", " + kind + ")", got, want[k][kind - 1]);
                if (want[k][kind - 1] == -3) {
                    Check.due("mark, then finding()", x.finding(), 3);
                }
            }
        }
        PinDuties y = Check.street("m0010w0040c0019");
        Check.due("mark of a mare worth nothing", y.mark(0, 3), 100);
        Check.due("mark of the least writ", y.mark(1, 1), 86);
        Check.due("mark of the least writ, as one", y.mark(1, 5), 96);
        Check.due("mark of the best cold", y.mark(2, 1), 99);
    }

    private static void markOfNoSuchKind() {
        PinDuties x = Check.street("p0138c0214");
        Check.due("mark(0, 0)", x.mark(0, 0), PinDuties.BAD);
        Check.due("mark(0, 6)", x.mark(0, 6), PinDuties.BAD);
        Check.due("mark(0, 7)", x.mark(0, 7), PinDuties.BAD);
        Check.due("mark(0, -1)", x.mark(0, -1), PinDuties.BAD);
        Check.due("mark(2, 1)", x.mark(2, 1), PinDuties.BAD);
        Check.due("mark(-1, 1)", x.mark(-1, 1), PinDuties.BAD);
        Check.due("finding(), none yet", x.finding(), 0);
        Check.due("asked(), not told by mark()", x.asked(), 0);
    }

    // Promise 14
    private static void worth() {
        PinDuties x = Check.street(ALL);
        for (int luck = 0; luck <= 9; luck++) {
            int[] want = {luck, luck - 10, luck + 3, 3 * luck, 2 * luck + 6, luck - 13, luck, 2 * luck};
            for (int k = 0; k < 8; k++) {
                Check.told(x, "worth(" + k + ", " + luck + ")", x.worth(k, luck), want[k]);
            }
        }
        Check.told(x, "pin(3, 5), as it was", x.pin(3, 5), 18);
        Check.due("worth(0, 10)", x.worth(0, 10), PinDuties.BAD);
        Check.due("worth(0, -1)", x.worth(0, -1), PinDuties.BAD);
        Check.due("worth(8, 0)", x.worth(8, 0), PinDuties.BAD);
        Check.due("worth(-1, 0)", x.worth(-1, 0), PinDuties.BAD);
        Check.due("asked() stays, if refused", x.asked(), 18);
    }
}
