/** The edges of promises 22 to 27: busy hours, clashes, the fewest to drop, the best day, ways. */
final class EdgesOfDay extends Edges {
    private static final String ALIKE = "p0041p0041p0041p0041p0041p0041p0041p0041";
    private static final String APART = "p0011p0111p0211p0311p0411p0511p0611p0711";

    static void all() {
        promise(22);
        sentence("HOURS (bits) of those that are HELD;", EdgesOfDay::busyOfHeld);
        sentence("HOURS (bits)", EdgesOfDay::busyFirstAndLast);
        sentence("HOURS that two or more have by asked().", EdgesOfDay::busyTwiceOrMore);
        promise(23);
        sentence("How many pairs of those that are HELD CLASH;", EdgesOfDay::clashesOfNoneToEight);
        sentence("what all are WORTH together by asked().", EdgesOfDay::clashesWorth);
        promise(24);
        sentence("The fewest of those HELD to drop so that no two CLASH;", EdgesOfDay::leastOfNoneToEight);
        sentence("which (bits; of like few the least number) by asked().", EdgesOfDay::leastWhich);
        promise(25);
        sentence("The most that PINS that are HELD, or lie, are WORTH together,", EdgesOfDay::bestOfHeldOrLying);
        sentence("no two of which CLASH", EdgesOfDay::bestOfClashing);
        sentence("(none: 0);", EdgesOfDay::bestOfNone);
        sentence("of such sets the least number by asked();", EdgesOfDay::bestLeastNumber);
        sentence("these by their HOURS (the earliest first) come to a ROW (anew).", EdgesOfDay::bestToARow);
        sentence("BAD;", EdgesOfDay::bestBad);
        sentence("STATE: no PINS.", EdgesOfDay::bestNoPins);
        ways();
    }

    private static void ways() {
        promise(26);
        sentence("The fewest STEPS by which one comes from here by the PLACES of all PINS told", EdgesOfDay::walkOfTwo);
        sentence("(bits; each lies;", EdgesOfDay::walkOfOneToEight);
        sentence("0: 0 STEPS, here, also without a STREET);", EdgesOfDay::walkOfNone);
        sentence("the PLACE at last by asked()", EdgesOfDay::walkPlaceAtLast);
        sentence("(of both the lower one).", EdgesOfDay::walkOfBothTheLower);
        sentence("BAD;", EdgesOfDay::walkBad);
        sentence("STATE: one of them does not lie.", EdgesOfDay::walkNotLying);
        sentence("BAD; STATE: one of them does not lie.", EdgesOfDay::walkBadAheadOfState);
        promise(27);
        sentence("The most that PINS which lie, picked up by n (0 .. 20) STEPS or fewer, are WORTH together,",
            EdgesOfDay::withinEachNumber);
        sentence("picked up by n (0 .. 20) STEPS or fewer,", EdgesOfDay::withinIsAside);
        sentence("no two of which CLASH,", EdgesOfDay::withinClashing);
        sentence("nor with one that is HELD", EdgesOfDay::withinHeld);
        sentence("(none: 0);", EdgesOfDay::withinNone);
        sentence("which (the least number) by asked().", EdgesOfDay::withinLeastNumber);
        sentence("BAD;", EdgesOfDay::withinBad);
        sentence("STATE: no PINS.", EdgesOfDay::withinNoPins);
    }

    /** What is told of it in the Terms. */
    static void terms() {
        sentence("Two PINS CLASH, if an HOUR is one of both.", EdgesOfDay::clashByAnHour);
    }

    private static PinDuties held(String signs) {
        PinDuties x = street(signs);
        pick(x, 0, 1, 2, 3, 4, 5, 6, 7);
        return x;
    }

    private static void clashByAnHour() {
        // Of hours 3 to 4 with each other span: the one ends, or begins, where the other one does.
        for (int hour = 0; hour <= 9; hour++) {
            for (int length = 1; length <= 4; length++) {
                boolean common = hour <= 4 && hour + length > 3;
                PinDuties x = held("p0320p0" + hour + length + "0");
                both(x, "clashes() of 3 to 4, " + length + " from " + hour, x.clashes(), common ? 1 : 0, 0);
            }
        }
        due("clashes() elsewhere, swept", rich().clashes(), 0);
    }

    // ---- 22 busy

    private static void busyOfHeld() {
        PinDuties x = new PinDuties();
        both(x, "busy(), no street", x.busy(), 0, 0);
        PinDuties y = street(ALIKE);
        both(y, "busy(), none held", y.busy(), 0, 0);
        PinDuties z = rich();
        both(z, "busy(), pin 2 held, others lie or are swept", z.busy(), 0x30, 0);
        z.drop(2);
        both(z, "busy(), dropped", z.busy(), 0, 0);
        aside("busy()", Edges::rich, w -> w.busy());
    }

    private static void busyFirstAndLast() {
        PinDuties x = held("p0011");
        both(x, "busy(): hour 0", x.busy(), 1, 0);
        PinDuties y = held("p0941");
        both(y, "busy(): hours 9 to 12", y.busy(), 0x1e00, 0);
        PinDuties z = held("p0041p0441p0841p0941");
        both(z, "busy(): all hours", z.busy(), 0x1fff, 0xe00);
    }

    private static void busyTwiceOrMore() {
        PinDuties x = held("p0021p0121");
        both(x, "busy(): one hour of both", x.busy(), 7, 2);
        PinDuties y = held("p0021p0221");
        both(y, "busy(): one behind the other", y.busy(), 15, 0);
        PinDuties z = held("p0011p0011p0011");
        both(z, "busy(): an hour of three", z.busy(), 1, 1);
        PinDuties w = held(ALIKE);
        both(w, "busy(): of eight", w.busy(), 15, 15);
        PinDuties v = held("p0011p0011p0111p0211p0211p9911p0311");
        both(v, "busy(): an hour of two, then others", v.busy(), 15, 5);
    }

    // ---- 23 clashes

    private static void clashesOfNoneToEight() {
        PinDuties x = new PinDuties();
        both(x, "clashes(), no street", x.clashes(), 0, 0);
        PinDuties y = street(ALIKE);
        both(y, "clashes(), none held", y.clashes(), 0, 0);
        for (int many = 1; many <= 8; many++) {
            y.pick(many - 1);
            both(y, "clashes() of " + many, y.clashes(), many * (many - 1) / 2, many);
        }
        PinDuties z = held(APART);
        both(z, "clashes(), eight apart", z.clashes(), 0, 8);
        aside("clashes()", Edges::rich, w -> w.clashes());
    }

    private static void clashesWorth() {
        PinDuties x = held("c0010w0040c0010w0040c0010w0040c0010w0040");
        both(x, "clashes(): worth below 0", x.clashes(), 28, -96);
        PinDuties y = held("m0049m0049m0049m0049m0049m0049m0049m0049");
        both(y, "clashes(): worth the most", y.clashes(), 28, 288);
        PinDuties z = rich();
        both(z, "clashes(): what is held alone", z.clashes(), 0, 8);
        PinDuties w = held("p0011c0119");
        both(w, "clashes(): 1 and -1", w.clashes(), 0, 0);
    }

    // ---- 24 least

    private static void leastOfNoneToEight() {
        PinDuties x = new PinDuties();
        both(x, "least(), no street", x.least(), 0, 0);
        PinDuties y = street(ALIKE);
        both(y, "least(), none held", y.least(), 0, 0);
        for (int many = 1; many <= 8; many++) {
            y.pick(many - 1);
            both(y, "least() of " + many, y.least(), many - 1, (1 << many - 1) - 1);
        }
        PinDuties z = held(APART);
        both(z, "least(), eight apart", z.least(), 0, 0);
        aside("least()", () -> held(ALIKE), w -> w.least());
    }

    private static void leastWhich() {
        PinDuties x = held("p0019p0010");
        both(x, "least(): of like few the least number, not what is worth least", x.least(), 1, 1);
        PinDuties y = held("p0011p0111p0211p0041");
        both(y, "least(): fewest ahead of the least number", y.least(), 1, 8);
        PinDuties z = street(ALIKE);
        pick(z, 7, 2, 4);
        both(z, "least(): of those held alone", z.least(), 2, 0x14);
        PinDuties w = held("p0021p0121p0221p0321p0421");
        both(w, "least(): every second one", w.least(), 2, 0xa);
    }

    // ---- 25 best

    private static void bestOfHeldOrLying() {
        PinDuties x = street("p0011p0112p9214p0418");
        both(x, "best(0): all lie", x.best(0), 15, 15);
        x.pick(0);
        both(x, "best(0): one held", x.best(0), 15, 15);
        x.sweep();
        both(x, "best(0): two swept", x.best(0), 5, 5);
        x.drop(0);
        x.sweep();
        both(x, "best(0): three swept", x.best(0), 4, 4);
        PinDuties y = held(APART);
        both(y, "best(0): eight held", y.best(0), 8, 255);
    }

    private static void bestOfClashing() {
        PinDuties x = held(ALIKE);
        both(x, "best(0): of eight alike", x.best(0), 1, 1);
        PinDuties y = street("p0021p0129p0221");
        both(y, "best(0): the one between", y.best(0), 9, 2);
        PinDuties z = street("p0025p0129p0225");
        both(z, "best(0): both beside it", z.best(0), 10, 5);
        PinDuties w = street("p0045p0415");
        both(w, "best(0): one right behind the other", w.best(0), 10, 3);
    }

    private static void bestOfNone() {
        PinDuties x = street("c0019w0149");
        both(x, "best(0): all below 0", x.best(0), 0, 0);
        places(x, 0);
        PinDuties y = street("p0010");
        both(y, "best(0): worth nothing", y.best(0), 0, 0);
        places(y, 0);
        PinDuties z = street("p0019");
        z.sweep();
        both(z, "best(0): all swept", z.best(0), 0, 0);
        places(z, 0);
        due("count(6): a row of none is there", z.count(6), 1);
    }

    private static void bestLeastNumber() {
        PinDuties x = street("p0012p0012p0110");
        both(x, "best(0): the first of two alike, and none that is worth nothing", x.best(0), 2, 1);
        PinDuties y = street("p0010p0012p0112");
        both(y, "best(0): two", y.best(0), 4, 6);
        PinDuties z = street("p0112p0112p0024p0014");
        both(z, "best(0): two of number 9 ahead of two of 10, one of 4 is worth 4 alone", z.best(0), 6, 9);
        PinDuties w = street("p0013p0111p0024");
        both(w, "best(0): two of number 3 ahead of one of 4", w.best(0), 4, 3);
    }

    private static void bestToARow() {
        PinDuties x = street("p0711p0611p0511p0411p0311p0211p0111p0011");
        for (int r = 0; r <= 5; r++) {
            both(x, "best(" + r + ")", x.best(r), 8, 255);
            due("count(6)", x.count(6), r + 1);
            if (r % 5 == 0) {
                places(x, r, 7, 6, 5, 4, 3, 2, 1, 0);
            }
        }
        PinDuties y = street("p9911p0019");
        fill(y, 3, -1, -2, -3);
        both(y, "best(3), where three were", y.best(3), 10, 3);
        places(y, 3, 1, 0);
        y.row(3, 40);
        both(y, "best(3), where forty were", y.best(3), 10, 3);
        places(y, 3, 1, 0);
        y.tear(3);
        both(y, "best(3), where none was", y.best(3), 10, 3);
        places(y, 3, 1, 0);
        y.row(3, 3);
        places(y, 3, 0, 0, 0);
        PinDuties z = rich();
        z.best(5);
        due("best(): no deed", z.count(2), 9);
        z.tear(5);
        same("best(5), but for its row", z, rich());
    }

    private static void bestBad() {
        for (int r : outside(0, 5)) {
            bad("best(" + r + ")", Edges::rich, x -> x.best(r));
            bad("best(" + r + "), no pins", PinDuties::new, x -> x.best(r));
        }
    }

    private static void bestNoPins() {
        for (int r = 0; r <= 5; r++) {
            final int row = r;
            notNow("best(" + r + ")", PinDuties::new, x -> x.best(row));
        }
        notNow("best(0), the row stays", () -> {
            PinDuties x = new PinDuties();
            fill(x, 0, 1, 2);
            return x;
        }, x -> x.best(0));
    }

    // ---- 26 walk

    private static void walkOfTwo() {
        for (int low = 0; low <= 9; low++) {
            for (int high = low; high <= 9; high++) {
                PinDuties x = street("p" + high + "010p" + low + "010");
                for (int here = 0; here <= 9; here++) {
                    at(x, here);
                    int nearer = Math.min(Math.abs(here - low), Math.abs(here - high));
                    due("walk(3) by " + low + ", " + high + " from " + here, x.walk(3), nearer + high - low);
                }
            }
        }
    }

    private static void walkOfOneToEight() {
        PinDuties x = street("p1010p2010p3010p4010p5010p6010p7010p8010");
        for (int k = 0; k <= 7; k++) {
            both(x, "walk() to pin " + k, x.walk(1 << k), k + 1, k + 1);
            both(x, "walk() to pins up to " + k, x.walk((2 << k) - 1), k + 1, k + 1);
        }
        both(x, "walk(255)", x.walk(255), 8, 8);
        x.pick(0);
        both(x, "walk(255), none here", x.walk(255), 8, 8);
        aside("walk(48)", Edges::rich, y -> y.walk(48));
    }

    private static void walkOfNone() {
        PinDuties x = new PinDuties();
        x.row(0, 1);
        x.lay(0, 0, 7);
        x.at(0, 0);
        both(x, "walk(0), no street", x.walk(0), 0, 0);
        PinDuties y = street("p9010");
        both(y, "walk(0) in 0", y.walk(0), 0, 0);
        at(y, 9);
        both(y, "walk(0) in 9", y.walk(0), 0, 9);
        y.sweep();
        both(y, "walk(0), all swept", y.walk(0), 0, 9);
    }

    private static void walkPlaceAtLast() {
        PinDuties x = street("p2010p6010p6010");
        both(x, "walk(3) from 0", x.walk(3), 6, 6);
        at(x, 2);
        both(x, "walk(3) from 2", x.walk(3), 4, 6);
        at(x, 3);
        both(x, "walk(3) from 3", x.walk(3), 5, 6);
        at(x, 5);
        both(x, "walk(3) from 5", x.walk(3), 5, 2);
        at(x, 6);
        both(x, "walk(3) from 6", x.walk(3), 4, 2);
        both(x, "walk(6) from 6: here", x.walk(6), 0, 6);
        both(x, "walk(1) from 6", x.walk(1), 4, 2);
        at(x, 9);
        both(x, "walk(3) from 9", x.walk(3), 7, 2);
        both(x, "walk(4) from 9", x.walk(4), 3, 6);
    }

    private static void walkOfBothTheLower() {
        PinDuties x = street("p2010p6010p0010p9010");
        at(x, 4);
        both(x, "walk(3) from 4", x.walk(3), 6, 2);
        PinDuties y = street("p9010p1010");
        at(y, 5);
        both(y, "walk(3) from 5", y.walk(3), 12, 1);
    }

    private static void walkBad() {
        for (int set : outside(0, 63)) {
            bad("walk(" + set + "), of six", Edges::rich, x -> x.walk(set));
        }
        bad("walk(256), of eight", () -> street(ALIKE), x -> x.walk(256));
        bad("walk(128), of seven", () -> street(ALIKE.substring(5)), x -> x.walk(128));
        bad("walk(1), no pins", PinDuties::new, x -> x.walk(1));
        bad("walk(-1), no pins", PinDuties::new, x -> x.walk(-1));
    }

    private static void walkNotLying() {
        notNow("walk(4), held", Edges::rich, x -> x.walk(4));
        notNow("walk(8), swept", Edges::rich, x -> x.walk(8));
        notNow("walk(55), one of them held", Edges::rich, x -> x.walk(55));
        notNow("walk(59), one of them swept", Edges::rich, x -> x.walk(59));
        PinDuties x = rich();
        both(x, "walk(51), all of them lie", x.walk(51), 3, 0);
    }

    private static void walkBadAheadOfState() {
        bad("walk(68)", Edges::rich, x -> x.walk(68));
        bad("walk(-4)", Edges::rich, x -> x.walk(-4));
    }

    // ---- 27 within

    private static void withinEachNumber() {
        // Worth 1, 2, 4, 8 in 0, 1, 5, 9.
        PinDuties x = street("p0011p1112p5214p9318");
        int[] sets = {1, 3, 3, 3, 3, 7, 7, 7, 7, 15};
        for (int n = 0; n <= 20; n++) {
            int set = sets[Math.min(n, 9)];
            both(x, "within(" + n + ") from 0", x.within(n), set, set);
        }
        at(x, 5);
        // From 5: 4 forth, or 4 and 5 back, or 4, 4 and 8 (or 5, 5 and 9) both ways.
        int[] others = {4, 4, 4, 4, 12, 12, 12, 12, 12, 12, 12, 12, 14, 15, 15, 15, 15, 15, 15, 15, 15};
        for (int n = 0; n <= 20; n++) {
            both(x, "within(" + n + ") from 5", x.within(n), others[n], others[n]);
        }
    }

    private static void withinIsAside() {
        aside("within(20)", Edges::rich, x -> x.within(20));
        PinDuties x = walked("p9015", 40);
        both(x, "within(8), 40 deeds", x.within(8), 0, 0);
        both(x, "within(9), 40 deeds", x.within(9), 5, 1);
        PinDuties y = street("p0015p0018");
        y.pick(0);
        at(y, 9);
        y.drop(0);
        both(y, "within(0): where it was dropped", y.within(0), 5, 1);
        both(y, "within(8)", y.within(8), 5, 1);
        both(y, "within(9): the one or the other", y.within(9), 8, 2);
    }

    private static void withinClashing() {
        PinDuties x = street("p0025p0129p0225");
        both(x, "within(0): two beside one", x.within(0), 10, 5);
        PinDuties y = street(ALIKE);
        both(y, "within(0): of eight alike", y.within(0), 1, 1);
        PinDuties z = street(APART);
        both(z, "within(0): of eight apart", z.within(0), 8, 255);
    }

    private static void withinHeld() {
        PinDuties x = street("p0031p0119p0218p0315");
        x.pick(0);
        both(x, "within(0): those that clash with it do not count, nor it", x.within(0), 5, 8);
        x.drop(0);
        both(x, "within(0): none held", x.within(0), 22, 14);
        PinDuties y = held(ALIKE);
        both(y, "within(0): all held", y.within(0), 0, 0);
    }

    private static void withinNone() {
        PinDuties x = street("c0019w0149p0210");
        both(x, "within(20): none worth anything", x.within(20), 0, 0);
        PinDuties y = street("p0019");
        y.sweep();
        both(y, "within(20): all swept", y.within(20), 0, 0);
        PinDuties z = street("p1019");
        both(z, "within(0): none here", z.within(0), 0, 0);
    }

    private static void withinLeastNumber() {
        PinDuties x = street("p0012p0012p0110");
        both(x, "within(0)", x.within(0), 2, 1);
        PinDuties y = street("p0013p0111p0024");
        both(y, "within(0): two of number 3 ahead of one of 4", y.within(0), 4, 3);
        PinDuties z = street("p1014p0014");
        both(z, "within(0): the one here", z.within(0), 4, 2);
        both(z, "within(1): the least number, though farther", z.within(1), 4, 1);
    }

    private static void withinBad() {
        for (int n : outside(0, 20)) {
            bad("within(" + n + ")", Edges::rich, x -> x.within(n));
            bad("within(" + n + "), no pins", PinDuties::new, x -> x.within(n));
        }
    }

    private static void withinNoPins() {
        notNow("within(0)", PinDuties::new, x -> x.within(0));
        notNow("within(20)", PinDuties::new, x -> x.within(20));
    }
}
