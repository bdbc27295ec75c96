/** Promise 32: by turns of two who pick. */
public final class DuelTest {
    public static void main(String[] args) {
        duel();
        ownClashes();
        orNone();
        whichLie();
        refused();
        Check.end();
    }

    private static void duelOf(String signs, int... want) {
        PinDuties x = Check.street(signs);
        for (int n = 0; n < want.length; n++) {
            Check.due("duel(" + n + ") of " + signs, x.duel(n), 500 + want[n]);
        }
    }

    private static void duel() {
        duelOf("p0019p5118p9317p3516", 0, 9, 1, 8, 2);
        duelOf("p0011", 0, 1, 1, 1, 1);
        duelOf("m0049", 0, 36, 36, 36, 36);
    }

    // One's own pins may not clash; the other one's do not matter.
    private static void ownClashes() {
        duelOf("p0019p0018", 0, 9, 1, 1, 1);
        duelOf("p0019p0018p0017", 0, 9, 1, 1, 1);
        // Who takes the mare for hours 0 to 3 can't take any other one: by 4 turns a pin is the better first pick.
        duelOf("m0042p0015p0115p0215", 0, 8, 3, 3, 2);
        // By 4 turns the other one takes the last pin first, which clashes with none.
        duelOf("p0019p0018p0111", 0, 9, 1, 2, 0);
    }

    // Who would lose by each pin picks none.
    private static void orNone() {
        duelOf("c0019w0149", 0, 0, 0, 0, 0);
        duelOf("c0019p0112", 0, 2, 2, 2, 2);
    }

    private static void whichLie() {
        PinDuties x = Check.street("p0019p0018p1017p2116");
        x.pick(0);
        Check.due("duel(1): those held do not matter", x.duel(1), 508);
        Check.due("duel(2)", x.duel(2), 501);
        x.sweep();
        Check.due("duel(1): not the swept", x.duel(1), 507);
        Check.due("duel(2): anywhere", x.duel(2), 501);
        x.drop(0);
        Check.due("duel(1): dropped", x.duel(1), 509);
        x.sweep();
        x.step(1);
        x.sweep();
        x.step(1);
        x.sweep();
        Check.due("duel(4): none lie", x.duel(4), 500);
        Check.due("asked(), not told by duel()", x.asked(), 0);
    }

    private static void refused() {
        PinDuties x = new PinDuties();
        Check.due("duel(5), no pins: BAD first", x.duel(5), PinDuties.BAD);
        Check.due("duel(-1), no pins: BAD first", x.duel(-1), PinDuties.BAD);
        Check.due("duel(0), no pins", x.duel(0), PinDuties.STATE);
        PinDuties y = Check.street("p0019");
        Check.due("duel(5)", y.duel(5), PinDuties.BAD);
        Check.due("duel(-1)", y.duel(-1), PinDuties.BAD);
    }
}
