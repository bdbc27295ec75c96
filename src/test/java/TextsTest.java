/** Promises 8 to 11: texts, faults, streets. */
public final class TextsTest {
    public static void main(String[] args) {
        text();
        put();
        fault();
        faultOfEachSign();
        street();
        streetRefused();
        Check.end();
    }

    // Promise 8
    private static void text() {
        PinDuties x = new PinDuties();
        Check.due("text(0, 3)", x.text(0, 3), 3);
        for (int i = 0; i < 3; i++) {
            Check.due("put(0, " + i + ", 1), a blank", x.put(0, i, 1), 1032);
        }
        Check.due("text(0, 3), anew", x.text(0, 3), 3);
        Check.due("put(0, 2, 1), a blank again", x.put(0, 2, 1), 1032);
        Check.due("text(3, 60)", x.text(3, 60), 60);
        Check.due("put(3, 59, 1)", x.put(3, 59, 1), 1032);
        Check.due("text(2, 0)", x.text(2, 0), 0);
        Check.due("text(3, 61)", x.text(3, 61), PinDuties.BAD);
        Check.due("text(4, 1)", x.text(4, 1), PinDuties.BAD);
        Check.due("text(-1, 1)", x.text(-1, 1), PinDuties.BAD);
        Check.due("text(4, -1): BAD first", x.text(4, -1), PinDuties.BAD);
        Check.due("finding(), none yet", x.finding(), 0);
        Check.finds(x, "text(3, -1)", x.text(3, -1), 5);
        Check.due("put(3, 59, 1), as it was", x.put(3, 59, 1), 1001);
        Check.due("count(7)", x.count(7), 3);
        Check.due("count(6): no rows", x.count(6), 0);
    }

    // Promise 9
    private static void put() {
        PinDuties x = new PinDuties();
        Check.due("put(4, 0, 1)", x.put(4, 0, 1), PinDuties.BAD);
        Check.due("put(-1, 0, 1)", x.put(-1, 0, 1), PinDuties.BAD);
        Check.finds(x, "put(0, 0, 1), missing", x.put(0, 0, 1), 1);
        x.text(0, 2);
        Check.finds(x, "put(0, 2, 1)", x.put(0, 2, 1), 2);
        Check.finds(x, "put(0, -1, 1)", x.put(0, -1, 1), 2);
        int[] values = {127, -128, 128, 255, 256, -129, Integer.MAX_VALUE, 300};
        int[] bytes = {127, -128, -128, -1, 0, 127, -1, 44};
        int old = 32;
        for (int i = 0; i < values.length; i++) {
            Check.due("put(0, 1, " + values[i] + ")", x.put(0, 1, values[i]), 1000 + old);
            old = bytes[i];
        }
        Check.due("put(0, 1, 0)", x.put(0, 1, 0), 1000 + old);
        Check.due("asked(), not told by put()", x.asked(), 0);
    }

    private static void faultOf(String signs, int want) {
        PinDuties x = new PinDuties();
        Check.type(x, 2, signs);
        Check.due("fault of \"" + signs + "\"", x.fault(2), want);
        Check.due("street of \"" + signs + "\"", x.street(2) == PinDuties.STATE ? 1 : 0, want == -9 ? 0 : 1);
    }

    // Promise 10
    private static void fault() {
        PinDuties x = new PinDuties();
        Check.due("fault(4)", x.fault(4), PinDuties.BAD);
        Check.due("fault(-1)", x.fault(-1), PinDuties.BAD);
        Check.finds(x, "fault(3), missing", x.fault(3), 1);
        faultOf("", 0);
        faultOf(" ", 1);
        faultOf("    ", 4);
        faultOf("p0010", -9);
        faultOf("p9949", -9);
        faultOf("   p0010   ", -9);
        faultOf("p0010p0010c0010   l0010", -9);
        faultOf("p0010 x", 6);
        faultOf("p0010 p", 7);
        faultOf("p0010 p 0010", 7);
        faultOf("p001 0", 4);
        faultOf("p00100", 5);
        faultOf("0010", 0);
        faultOf(" P0010", 1);
        String eight = "p0010c0010l0010m0010b0010w0010p0010c0010";
        faultOf(eight, -9);
        faultOf(eight + "     ", -9);
        faultOf(eight + " p0010", 41);
        faultOf(eight + "p", 40);
        faultOf(eight + "  x", 42);
    }

    // Every byte at every sign of a pin, behind another pin and a blank.
    private static void faultOfEachSign() {
        PinDuties x = new PinDuties();
        int calls = 0;
        String goes = "pclmbw";
        for (int c = -128; c <= 127; c++) {
            for (int sign = 0; sign < 5; sign++) {
                if (calls > 400) {
                    x = new PinDuties();
                    calls = 0;
                }
                calls += 13;
                Check.type(x, 0, "w9949 m4328");
                x.put(0, 6 + sign, c);
                int low = sign == 3 ? '1' : '0';
                int high = sign == 3 ? '4' : '9';
                boolean fits = sign == 0 ? c > 0 && goes.indexOf((char) c) >= 0 : c >= low && c <= high;
                int want = fits ? -9 : 6 + sign;
                // A blank for the letter lets the figure behind it be the fault.
                Check.due("fault with " + c + " for sign " + sign, x.fault(0), sign == 0 && c == 32 ? 7 : want);
            }
        }
    }

    // Promise 11
    private static void street() {
        PinDuties x = new PinDuties();
        Check.type(x, 1, " c0138  m1247p9949");
        Check.due("street(1)", x.street(1), 3);
        Check.due("count(0)", x.count(0), 3);
        Check.told(x, "pin(0, 0)", x.pin(0, 0), 1);
        Check.told(x, "pin(1, 0)", x.pin(1, 0), 3);
        Check.told(x, "pin(2, 2)", x.pin(2, 2), 0x1e00);
        x.pick(0);
        x.step(1);
        x.sweep();
        x.keep(0);
        x.keep(2);
        x.put(1, 1, 'l');
        Check.told(x, "pin(0, 0), the text changed", x.pin(0, 0), 1);
        Check.due("street(1), anew", x.street(1), 3);
        Check.told(x, "pin(0, 0), by the text as it is", x.pin(0, 0), 2);
        Check.told(x, "pin(0, 1), lies as told", x.pin(0, 1), 0);
        Check.told(x, "pin(1, 1), lies as told", x.pin(1, 1), 1);
        int[] want = {3, 0, 0, 0, 7, 0, 0, 1, 0, 0, 1};
        for (int what = 0; what <= 10; what++) {
            Check.due("count(" + what + ") anew", x.count(what), want[what]);
        }
        Check.finds(x, "on(0): it went", x.on(0), 1);
        Check.finds(x, "on(2): it went", x.on(2), 1);
        Check.type(x, 1, "b0014");
        Check.due("street(1), of one", x.street(1), 1);
        Check.due("pin(1, 0): no such pin now", x.pin(1, 0), PinDuties.BAD);
    }

    private static void streetRefused() {
        PinDuties x = Check.street("p0138");
        x.pick(0);
        x.keep(1);
        Check.due("street(4)", x.street(4), PinDuties.BAD);
        Check.due("street(-1)", x.street(-1), PinDuties.BAD);
        Check.due("finding(), none yet", x.finding(), 0);
        Check.finds(x, "street(3), missing", x.street(3), 1);
        Check.type(x, 3, "p013");
        Check.due("street(3), a fault", x.street(3), PinDuties.STATE);
        Check.due("count(3), as it was", x.count(3), 1);
        Check.due("count(2), as it was", x.count(2), 1);
        Check.due("on(1), as it was", x.on(1), 1);
    }
}
