/** Promises 15 to 21: deeds, streets kept. */
public final class DeedsTest {
    public static void main(String[] args) {
        step();
        pick();
        drop();
        sweep();
        full();
        fortieth();
        undo();
        undoEach();
        keep();
        keepByOtherDeeds();
        keepRefused();
        Check.end();
    }

    // Promise 15
    private static void step() {
        PinDuties x = new PinDuties();
        Check.due("step(0), no pins: BAD first", x.step(0), PinDuties.BAD);
        Check.due("step(1), no pins", x.step(1), PinDuties.STATE);
        x = Check.street("p5011");
        Check.due("step(-1), none ahead", x.step(-1), PinDuties.STATE);
        for (int place = 1; place <= 9; place++) {
            Check.due("step(1)", x.step(1), place);
        }
        Check.due("step(1), none behind", x.step(1), PinDuties.STATE);
        Check.due("count(1)", x.count(1), 9);
        for (int place = 8; place >= 0; place--) {
            Check.due("step(-1)", x.step(-1), place);
        }
        Check.due("step(-1), none ahead", x.step(-1), PinDuties.STATE);
        Check.due("step(2)", x.step(2), PinDuties.BAD);
        Check.due("step(-2)", x.step(-2), PinDuties.BAD);
        Check.due("step(greatest int)", x.step(Integer.MAX_VALUE), PinDuties.BAD);
        Check.due("count(2)", x.count(2), 18);
    }

    // Promise 16
    private static void pick() {
        PinDuties x = new PinDuties();
        Check.due("pick(0), no pins", x.pick(0), PinDuties.BAD);
        x = Check.street("p0011p0022p1033p0044");
        Check.due("pick(4)", x.pick(4), PinDuties.BAD);
        Check.due("pick(-1)", x.pick(-1), PinDuties.BAD);
        Check.due("pick(2), elsewhere", x.pick(2), PinDuties.STATE);
        Check.due("pick(1)", x.pick(1), 1);
        Check.due("pick(1), held", x.pick(1), PinDuties.STATE);
        Check.due("pick(0)", x.pick(0), 2);
        Check.due("count(3)", x.count(3), 3);
        Check.due("count(4)", x.count(4), 12);
        x.sweep();
        Check.due("pick(3), swept", x.pick(3), PinDuties.STATE);
        x.step(1);
        x.drop(0);
        Check.due("pick(2)", x.pick(2), 2);
        Check.due("pick(0), dropped here", x.pick(0), 3);
        Check.due("count(2)", x.count(2), 7);
    }

    // Promise 17
    private static void drop() {
        PinDuties x = new PinDuties();
        Check.due("drop(0), no pins", x.drop(0), PinDuties.BAD);
        x = Check.street("p0011p0022");
        Check.due("drop(2)", x.drop(2), PinDuties.BAD);
        Check.due("drop(-1)", x.drop(-1), PinDuties.BAD);
        Check.due("drop(0), lies", x.drop(0), PinDuties.STATE);
        x.pick(0);
        x.pick(1);
        x.step(1);
        Check.due("drop(0)", x.drop(0), 1);
        Check.due("drop(0), dropped", x.drop(0), PinDuties.STATE);
        Check.told(x, "pin(0, 1)", x.pin(0, 1), 1);
        x.step(1);
        Check.due("drop(1)", x.drop(1), 0);
        Check.told(x, "pin(1, 1)", x.pin(1, 1), 2);
        Check.due("count(3)", x.count(3), 0);
        Check.due("count(4)", x.count(4), 3);
        x.sweep();
        Check.due("drop(1), swept", x.drop(1), PinDuties.STATE);
        Check.due("count(2)", x.count(2), 7);
    }

    // Promise 18
    private static void sweep() {
        PinDuties x = new PinDuties();
        Check.due("sweep(), no pins", x.sweep(), PinDuties.STATE);
        x = Check.street("p0011p0022p1033p0044");
        x.pick(1);
        Check.due("sweep()", x.sweep(), 2);
        Check.due("count(5)", x.count(5), 9);
        Check.due("count(3)", x.count(3), 2);
        Check.due("sweep(), none there", x.sweep(), 0);
        Check.due("count(2): a deed all the same", x.count(2), 3);
        x.drop(1);
        x.step(1);
        Check.due("sweep(), further", x.sweep(), 1);
        Check.due("count(4)", x.count(4), 2);
    }

    // Forty deeds; FULL stands behind BAD and STATE.
    private static void full() {
        PinDuties x = Check.street("p0011p0022p9033");
        x.pick(0);
        for (int i = 0; i < 38; i++) {
            Check.due("sweep() " + i, x.sweep(), i == 0 ? 1 : 0);
        }
        Check.due("count(2)", x.count(2), 39);
        Check.due("lots(2, 5)", x.lots(2, 5), PinDuties.FULL);
        Check.due("step(1), the fortieth", x.step(1), 1);
        Check.due("step(1)", x.step(1), PinDuties.FULL);
        Check.due("step(3): BAD first", x.step(3), PinDuties.BAD);
        Check.due("drop(0)", x.drop(0), PinDuties.FULL);
        Check.due("drop(1): STATE first", x.drop(1), PinDuties.STATE);
        Check.due("drop(3): BAD first", x.drop(3), PinDuties.BAD);
        Check.due("pick(2): STATE first", x.pick(2), PinDuties.STATE);
        Check.due("pick(3): BAD first", x.pick(3), PinDuties.BAD);
        Check.due("sweep()", x.sweep(), PinDuties.FULL);
        Check.due("keep(0)", x.keep(0), 40);
        Check.due("undo(39)", x.undo(39), 1);
        Check.due("step(-1): STATE, ahead of room", x.step(-1), PinDuties.STATE);
        Check.due("on(0)", x.on(0), 40);
        Check.due("count(1)", x.count(1), 1);
        PinDuties y = Check.street("p0011");
        for (int i = 0; i < 40; i++) {
            y.sweep();
        }
        Check.due("step(-1): STATE first", y.step(-1), PinDuties.STATE);
        Check.due("pick(0), swept: STATE first", y.pick(0), PinDuties.STATE);
        PinDuties z = Check.street("p0011");
        for (int i = 0; i < 20; i++) {
            z.pick(0);
            z.drop(0);
        }
        Check.due("pick(0), that lies here", z.pick(0), PinDuties.FULL);
        z.undo(39);
        Check.due("drop(0), the fortieth", z.drop(0), 0);
    }

    // Each kind of deed can be the fortieth.
    private static void fortieth() {
        PinDuties x = Check.street("p0011p0022");
        for (int i = 0; i < 39; i++) {
            Check.due("step() " + i, x.step(i % 2 == 0 ? 1 : -1), 1 - i % 2);
        }
        x.step(-1);
        x.undo(38);
        x.pick(1);
        Check.due("pick(0), the fortieth", x.pick(0), 2);
        x.undo(39);
        Check.due("drop(1), the fortieth", x.drop(1), 0);
        x.undo(39);
        Check.due("sweep(), the fortieth", x.sweep(), 1);
        x.undo(39);
        Check.due("lots(1, 9), the fortieth", x.lots(1, 9) < 0 ? 1 : 0, 0);
        Check.due("count(2)", x.count(2), 40);
    }

    // Promise 19
    private static void undo() {
        PinDuties x = new PinDuties();
        Check.due("undo(0), no pins", x.undo(0), 0);
        Check.due("undo(1), no pins", x.undo(1), PinDuties.BAD);
        Check.due("undo(-1), no pins", x.undo(-1), PinDuties.BAD);
        x = Check.street("p0011p0022p1033");
        x.pick(0);
        x.step(1);
        x.drop(0);
        x.sweep();
        x.step(1);
        Check.due("undo(6)", x.undo(6), PinDuties.BAD);
        Check.due("undo(-1)", x.undo(-1), PinDuties.BAD);
        Check.due("undo(5): none", x.undo(5), 0);
        Check.due("undo(4)", x.undo(4), 1);
        Check.due("count(1)", x.count(1), 1);
        Check.due("undo(1)", x.undo(1), 3);
        Check.due("count(3): held again", x.count(3), 1);
        Check.due("count(5): none swept", x.count(5), 0);
        Check.due("count(1): back", x.count(1), 0);
        Check.due("count(2)", x.count(2), 1);
        x.sweep();
        Check.due("undo(0)", x.undo(0), 2);
        Check.due("count(4): all lie", x.count(4), 7);
        Check.told(x, "pin(0, 1): lies as told", x.pin(0, 1), 0);
    }

    // The digest, which tells the whole state, comes back deed by deed.
    private static void undoEach() {
        PinDuties x = Check.street("p0011p0022p1033m1124p2245");
        long[] states = new long[16];
        for (int i = 0; i < 16; i++) {
            states[i] = x.digest();
            x.lots(1, 77 + 1234567 * i);
        }
        for (int i = 15; i >= 0; i--) {
            Check.due("undo(" + i + ")", x.undo(i), 1);
            Check.due("digest() at " + i, x.digest(), states[i]);
        }
    }

    // Promises 20, 21
    private static void keep() {
        PinDuties x = Check.street("p0011p0022p1033");
        Check.due("keep(0)", x.keep(0), 0);
        x.pick(0);
        x.step(1);
        x.drop(0);
        Check.due("keep(1)", x.keep(1), 3);
        Check.due("count(8)", x.count(8), 2);
        x.sweep();
        x.step(1);
        Check.due("on(1)", x.on(1), 3);
        Check.due("count(5): none swept", x.count(5), 0);
        Check.due("count(1)", x.count(1), 1);
        Check.told(x, "pin(0, 1): lies where dropped", x.pin(0, 1), 1);
        Check.due("undo(1): deeds are kept, too", x.undo(1), 2);
        Check.due("count(3)", x.count(3), 1);
        Check.due("on(1): kept as it was", x.on(1), 3);
        Check.due("count(3)", x.count(3), 0);
        Check.due("on(0)", x.on(0), 0);
        Check.due("count(1)", x.count(1), 0);
        x.sweep();
        Check.due("keep(1), over another", x.keep(1), 1);
        x.undo(0);
        Check.due("on(1)", x.on(1), 1);
        Check.due("count(5)", x.count(5), 3);
        Check.due("count(8)", x.count(8), 2);
    }

    // The deeds kept are those done before, not those done in their stead later.
    private static void keepByOtherDeeds() {
        PinDuties x = Check.street("p0011p0022p1033");
        x.pick(1);
        x.step(1);
        x.pick(2);
        long state = x.digest();
        x.keep(0);
        x.undo(0);
        x.sweep();
        x.sweep();
        x.step(1);
        x.drop(1);
        Check.due("on(0)", x.on(0), 3);
        x.keep(0);
        Check.due("undo(1)", x.undo(1), 2);
        Check.due("count(3): what was done first", x.count(3), 2);
        Check.due("count(5): none swept", x.count(5), 0);
        x.on(0);
        Check.due("count(3)", x.count(3), 6);
        Check.due("count(1)", x.count(1), 1);
        x.undo(3);
        PinDuties y = Check.street("p0011p0022p1033");
        y.pick(1);
        y.step(1);
        y.pick(2);
        Check.due("digest(), but for what is kept", y.digest(), state);
        y.keep(0);
        Check.due("digest()", x.digest(), y.digest());
    }

    private static void keepRefused() {
        PinDuties x = new PinDuties();
        Check.due("keep(3), no pins: BAD first", x.keep(3), PinDuties.BAD);
        Check.due("keep(0), no pins", x.keep(0), PinDuties.STATE);
        Check.due("on(3)", x.on(3), PinDuties.BAD);
        Check.due("on(-1)", x.on(-1), PinDuties.BAD);
        Check.finds(x, "on(2), nothing kept", x.on(2), 1);
        x = Check.street("p0011");
        Check.due("keep(-1)", x.keep(-1), PinDuties.BAD);
        x.pick(0);
        x.keep(2);
        Check.finds(x, "on(1), nothing kept", x.on(1), 1);
        Check.due("count(2), as it was", x.count(2), 1);
        Check.due("on(2)", x.on(2), 1);
    }
}
