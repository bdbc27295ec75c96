/** Promises 22 to 25: busy hours, clashes, the fewest to drop, the best day. */
public final class DayTest {
    public static void main(String[] args) {
        withoutStreet();
        busy();
        clashes();
        least();
        leastOfLikeFew();
        best();
        bestOfLikeGood();
        bestOfHeldAndSwept();
        bestRefused();
        aside();
        Check.end();
    }

    private static void withoutStreet() {
        PinDuties x = new PinDuties();
        Check.both(x, "busy(), no street", x.busy(), 0, 0);
        Check.both(x, "clashes(), no street", x.clashes(), 0, 0);
        Check.both(x, "least(), no street", x.least(), 0, 0);
    }

    private static void pickAll(PinDuties x, int... pins) {
        for (int k : pins) {
            x.pick(k);
        }
    }

    // Promise 22
    private static void busy() {
        PinDuties x = Check.street("p0131p0321p0411p0941");
        Check.both(x, "busy(), none held", x.busy(), 0, 0);
        pickAll(x, 0);
        Check.both(x, "busy() of one", x.busy(), 0xe, 0);
        pickAll(x, 1);
        Check.both(x, "busy() of two", x.busy(), 0x1e, 0x8);
        pickAll(x, 2);
        Check.both(x, "busy() of three", x.busy(), 0x1e, 0x18);
        pickAll(x, 3);
        Check.both(x, "busy() to hour 12", x.busy(), 0x1e1e, 0x18);
        x.drop(1);
        Check.both(x, "busy(), one dropped", x.busy(), 0x1e1e, 0);
        PinDuties y = Check.street("p0021p0021p0021");
        pickAll(y, 0, 1, 2);
        Check.both(y, "busy() of three alike", y.busy(), 3, 3);
    }

    // Promise 23
    private static void clashes() {
        PinDuties x = Check.street("p0015c0015w0013m0128p0249l0941");
        Check.both(x, "clashes(), none held", x.clashes(), 0, 0);
        pickAll(x, 1);
        Check.both(x, "clashes() of one", x.clashes(), 0, -5);
        pickAll(x, 0, 2);
        Check.both(x, "clashes() of three", x.clashes(), 3, -8);
        pickAll(x, 3);
        Check.both(x, "clashes() of four", x.clashes(), 3, 8);
        pickAll(x, 4);
        Check.both(x, "clashes() of five", x.clashes(), 4, 17);
        pickAll(x, 5);
        Check.both(x, "clashes() of six", x.clashes(), 4, 18);
        PinDuties y = Check.street("p0041p0041p0041p0041p0041p0041p0041p0041");
        pickAll(y, 0, 1, 2, 3, 4, 5, 6, 7);
        Check.both(y, "clashes() of eight alike", y.clashes(), 28, 8);
    }

    // Promise 24
    private static void least() {
        PinDuties x = Check.street("p0021p0121p0221p0321p0711p0711p0711");
        Check.both(x, "least(), none held", x.least(), 0, 0);
        pickAll(x, 0, 2, 4);
        Check.both(x, "least(), no clash", x.least(), 0, 0);
        pickAll(x, 1);
        Check.both(x, "least(): the one between", x.least(), 1, 2);
        pickAll(x, 3);
        Check.both(x, "least() of four in a row", x.least(), 2, 5);
        pickAll(x, 5, 6);
        Check.both(x, "least(): two of three alike, too", x.least(), 4, 0x35);
        x.drop(0);
        Check.both(x, "least(), one dropped", x.least(), 3, 0x34);
    }

    private static void leastOfLikeFew() {
        PinDuties x = Check.street("p0019p0011");
        pickAll(x, 0, 1);
        Check.both(x, "least(): the least number, not the least worth", x.least(), 1, 1);
        PinDuties y = Check.street("p0041p0011p0111p0211");
        pickAll(y, 0, 1, 2, 3);
        Check.both(y, "least(): one rather than three", y.least(), 1, 1);
        PinDuties z = Check.street("p0011p0111p0211p0041");
        pickAll(z, 0, 1, 2, 3);
        Check.both(z, "least(): one rather than three, of a greater number", z.least(), 1, 8);
    }

    // Promise 25
    private static void best() {
        PinDuties x = Check.street("p9519p7325p5314m3014c1019b0911");
        Check.both(x, "best(2)", x.best(2), 20, 0x2b);
        Check.places(x, 2, 3, 1, 0, 5);
        Check.due("count(6): the row is there", x.count(6), 1);
        Check.due("count(2): no deed", x.count(2), 0);
        x.row(2, 40);
        Check.both(x, "best(2), the row anew", x.best(2), 20, 0x2b);
        Check.places(x, 2, 3, 1, 0, 5);
    }

    private static void bestOfLikeGood() {
        PinDuties x = Check.street("p0013p0013p0110p0211c0319");
        Check.both(x, "best(0): without those worth nothing", x.best(0), 4, 9);
        Check.places(x, 0, 0, 3);
        PinDuties y = Check.street("p0024p0013p0111");
        Check.both(y, "best(0): one or two alike, the least number", y.best(0), 4, 1);
        PinDuties z = Check.street("p0013p0111p0024");
        Check.both(z, "best(0): two or one alike, the least number", z.best(0), 4, 3);
        PinDuties w = Check.street("c0019w0149p0210");
        Check.both(w, "best(0): none", w.best(0), 0, 0);
        Check.places(w, 0);
        Check.due("count(6): the row is there, without places", w.count(6), 1);
    }

    private static void bestOfHeldAndSwept() {
        PinDuties x = Check.street("p0019p0018p0117p1216");
        x.pick(0);
        Check.both(x, "best(5): held ones, too", x.best(5), 22, 0xd);
        x.sweep();
        Check.both(x, "best(5): not the swept", x.best(5), 15, 0x9);
        Check.places(x, 5, 0, 3);
        x.drop(0);
        x.sweep();
        Check.both(x, "best(5): one left", x.best(5), 6, 8);
        x.step(1);
        x.sweep();
        Check.both(x, "best(5): none left", x.best(5), 0, 0);
        Check.places(x, 5);
    }

    private static void bestRefused() {
        PinDuties x = new PinDuties();
        Check.due("best(6): BAD first", x.best(6), PinDuties.BAD);
        Check.due("best(-1)", x.best(-1), PinDuties.BAD);
        Check.due("best(0), no pins", x.best(0), PinDuties.STATE);
        Check.due("count(6): no row came", x.count(6), 0);
        PinDuties y = Check.street("p0019");
        Check.due("best(6)", y.best(6), PinDuties.BAD);
    }

    private static void aside() {
        PinDuties x = Check.street("p0019p0118b1317m2028w2215");
        x.pick(0);
        x.step(1);
        x.best(0);
        long state = x.digest();
        x.busy();
        x.clashes();
        x.least();
        x.best(0);
        x.walk(4);
        x.within(5);
        x.duel(3);
        x.odds(3, 4);
        x.mid(4);
        Check.due("digest(), as it was", x.digest(), state);
    }
}
