/** The edges of promises 15 to 21: deeds, streets kept. */
final class EdgesOfDeeds extends Edges {
    static void all() {
        promise(15);
        sentence("A STEP by s (1, or -1): the PLACE then.", EdgesOfDeeds::stepToBothEnds);
        sentence("BAD;", EdgesOfDeeds::stepBad);
        sentence("STATE: no PINS,", EdgesOfDeeds::stepNoPins);
        sentence("or there is no such PLACE;", EdgesOfDeeds::stepNoPlace);
        sentence("FULL: 40 DEEDS.", EdgesOfDeeds::stepFull);
        sentence("(FULL last.)", EdgesOfDeeds::stepFullLast);
        promise(16);
        sentence("A PIN is picked up: how many are HELD.", EdgesOfDeeds::pickOneToEight);
        sentence("BAD;", EdgesOfDeeds::pickBad);
        sentence("STATE: it does not lie here;", EdgesOfDeeds::pickNotHere);
        sentence("FULL.", EdgesOfDeeds::pickFull);
        sentence("(FULL last.)", EdgesOfDeeds::pickFullLast);
        promise(17);
        sentence("One that is HELD is dropped: how many are HELD.", EdgesOfDeeds::dropEightToNone);
        sentence("BAD;", EdgesOfDeeds::dropBad);
        sentence("STATE: it is not HELD;", EdgesOfDeeds::dropNotHeld);
        sentence("FULL.", EdgesOfDeeds::dropFull);
        sentence("(FULL last.)", EdgesOfDeeds::dropFullLast);
        promise(18);
        sentence("All that lie here are SWEPT: how many", EdgesOfDeeds::sweepAllHere);
        sentence("(0, too: it is a DEED all the same).", EdgesOfDeeds::sweepNone);
        sentence("STATE: no PINS;", EdgesOfDeeds::sweepNoPins);
        sentence("FULL.", EdgesOfDeeds::sweepFull);
        sentence("(FULL last.)", EdgesOfDeeds::sweepFullLast);
        undoAndKeep();
    }

    private static void undoAndKeep() {
        promise(19);
        sentence("DEEDS from number n on", EdgesOfDeeds::undoFromEach);
        sentence("DEEDS from number n on", EdgesOfDeeds::undoEachKind);
        sentence("(0 to how many DEEDS there are: then 0)", EdgesOfDeeds::undoNone);
        sentence("are undone: how many.", EdgesOfDeeds::undoAll);
        sentence("BAD.", EdgesOfDeeds::undoBad);
        promise(20);
        sentence("The STREET (as it is, DEEDS) is kept in a place (0 .. 2): how many DEEDS.", EdgesOfDeeds::keepInEach);
        sentence("The STREET (as it is, DEEDS) is kept", EdgesOfDeeds::keepNoneAndForty);
        sentence("The STREET (as it is, DEEDS) is kept", EdgesOfDeeds::keepIsNoDeed);
        sentence("BAD;", EdgesOfDeeds::keepBad);
        sentence("STATE: no PINS.", EdgesOfDeeds::keepNoPins);
        promise(21);
        sentence("The STREET is as it was kept: how many DEEDS.", EdgesOfDeeds::onAsItWas);
        sentence("The STREET is as it was kept:", EdgesOfDeeds::onAgainAndAgain);
        sentence("BAD;", EdgesOfDeeds::onBad);
        sentence("NOTHING.", EdgesOfDeeds::onNothing);
        sentence("BAD; NOTHING.", EdgesOfDeeds::onNoPins);
    }

    /** What is told of deeds in the Terms. */
    static void terms() {
        sentence("======== 2 One is in PLACE 0 at first,", EdgesOfDeeds::placeNoughtAtFirst);
        sentence("HOLDS none;", EdgesOfDeeds::holdsNoneAtFirst);
        sentence("all PINS lie where told.", EdgesOfDeeds::lieWhereTold);
        sentence("What is done: a STEP (to the next PLACE, or to the one ahead),", EdgesOfDeeds::stepToBothEnds);
        sentence("a PIN that lies in the PLACE is picked up,", EdgesOfDeeds::pickNotHere);
        sentence("one that is HELD is dropped there,", EdgesOfDeeds::droppedThere);
        sentence("all that lie there are SWEPT (they are gone).", EdgesOfDeeds::sweptAreGone);
        sentence("These are DEEDS (40 at most).", EdgesOfDeeds::fortyDeeds);
    }

    // ---- the Terms

    private static void placeNoughtAtFirst() {
        due("count(1), new", new PinDuties().count(1), 0);
        due("count(1)", street("p9010").count(1), 0);
        due("step(-1)", street("p9010").step(-1), PinDuties.STATE);
        due("step(1)", street("p9010").step(1), 1);
    }

    private static void holdsNoneAtFirst() {
        PinDuties x = street("p0010p0010");
        due("count(3)", x.count(3), 0);
        due("count(5)", x.count(5), 0);
        due("drop(0)", x.drop(0), PinDuties.STATE);
        both(x, "busy()", x.busy(), 0, 0);
    }

    private static void lieWhereTold() {
        PinDuties x = street("p0010p9010p4010p4010");
        due("count(4)", x.count(4), 15);
        int[] places = {0, 9, 4, 4};
        for (int k = 0; k < 4; k++) {
            told(x, "pin(" + k + ", 1)", x.pin(k, 1), places[k]);
        }
    }

    private static void droppedThere() {
        for (int place = 0; place <= 9; place++) {
            PinDuties x = street("p0010");
            x.pick(0);
            at(x, place);
            due("drop(0) in " + place, x.drop(0), 0);
            told(x, "pin(0, 1)", x.pin(0, 1), place);
            due("pick(0) in " + place, x.pick(0), 1);
        }
    }

    private static void sweptAreGone() {
        PinDuties x = street("p0010p0010p1010");
        x.sweep();
        due("count(4)", x.count(4), 4);
        due("count(5)", x.count(5), 3);
        due("pick(0)", x.pick(0), PinDuties.STATE);
        due("drop(0)", x.drop(0), PinDuties.STATE);
        due("sweep(), again", x.sweep(), 0);
        due("count(5)", x.count(5), 3);
        due("count(0): they are told yet", x.count(0), 3);
    }

    private static void fortyDeeds() {
        PinDuties x = street("p0010");
        for (int i = 1; i <= 40; i++) {
            due("sweep(), deed " + i, x.sweep(), i == 1 ? 1 : 0);
            due("count(2)", x.count(2), i);
        }
        due("sweep(), deed 41", x.sweep(), PinDuties.FULL);
        due("count(2)", x.count(2), 40);
    }

    // ---- 15 step

    private static PinDuties forty() {
        return walked("p0010p0010p1010", 40);
    }

    private static void stepToBothEnds() {
        PinDuties x = street("p5010");
        for (int place = 1; place <= 9; place++) {
            due("step(1)", x.step(1), place);
            due("count(1)", x.count(1), place);
        }
        for (int place = 8; place >= 0; place--) {
            due("step(-1)", x.step(-1), place);
            due("count(1)", x.count(1), place);
        }
        due("count(2)", x.count(2), 18);
        due("count(4)", x.count(4), 1);
    }

    private static void stepBad() {
        for (int s : new int[] {0, 2, -2, 3, 257, -255, Integer.MIN_VALUE, Integer.MAX_VALUE}) {
            bad("step(" + s + ")", Edges::rich, x -> x.step(s));
            bad("step(" + s + "), no pins", PinDuties::new, x -> x.step(s));
            bad("step(" + s + "), in the first place", () -> street("p0010"), x -> x.step(s));
        }
    }

    private static void stepNoPins() {
        notNow("step(1)", PinDuties::new, x -> x.step(1));
        notNow("step(-1)", PinDuties::new, x -> x.step(-1));
    }

    private static void stepNoPlace() {
        notNow("step(-1) in 0", () -> street("p0010"), x -> x.step(-1));
        notNow("step(1) in 9", () -> at(street("p0010"), 9), x -> x.step(1));
        due("step(1) in 8", at(street("p0010"), 8).step(1), 9);
        due("step(-1) in 9", at(street("p0010"), 9).step(-1), 8);
        due("step(-1) in 1", at(street("p0010"), 1).step(-1), 0);
    }

    private static void stepFull() {
        full("step(1)", EdgesOfDeeds::forty, x -> x.step(1));
        full("step(-1)", () -> {
            PinDuties x = at(street("p0010"), 1);
            x.sweep();
            walk(x, 38);
            return x;
        }, x -> x.step(-1));
        due("step(1), the fortieth", walked("p0010", 38).step(1), 1);
        PinDuties x = walked("p0010", 39);
        due("step(-1), the fortieth", x.step(-1), 0);
        due("count(2)", x.count(2), 40);
    }

    private static void stepFullLast() {
        bad("step(0), 40 deeds", EdgesOfDeeds::forty, x -> x.step(0));
        notNow("step(-1) in 0, 40 deeds", EdgesOfDeeds::forty, x -> x.step(-1));
        notNow("step(1) in 9, 40 deeds", () -> {
            PinDuties x = street("p0010");
            for (int i = 0; i < 31; i++) {
                x.sweep();
            }
            return at(x, 9);
        }, x -> x.step(1));
    }

    // ---- 16 pick

    private static PinDuties eightHere() {
        return street("p0010p0010p0010p0010p0010p0010p0010p0010");
    }

    private static void pickOneToEight() {
        PinDuties x = eightHere();
        for (int k = 7; k >= 0; k--) {
            due("pick(" + k + ")", x.pick(k), 8 - k);
            due("count(3)", x.count(3), 255 & 255 << k);
            due("count(4)", x.count(4), 255 & ~(255 << k));
        }
        due("count(2)", x.count(2), 8);
        due("count(1)", x.count(1), 0);
    }

    private static void pickBad() {
        for (int k : outside(0, 5)) {
            bad("pick(" + k + "), of six", Edges::rich, x -> x.pick(k));
        }
        bad("pick(8), of eight", EdgesOfDeeds::eightHere, x -> x.pick(8));
        bad("pick(32), of eight", EdgesOfDeeds::eightHere, x -> x.pick(32));
        bad("pick(0), no pins", PinDuties::new, x -> x.pick(0));
    }

    // In rich() pin 2 is held, 3 swept, 0 and 1 lie elsewhere, 4 and 5 here.
    private static void pickNotHere() {
        for (int k = 0; k <= 3; k++) {
            final int pin = k;
            notNow("pick(" + k + ")", Edges::rich, x -> x.pick(pin));
        }
        due("pick(4)", rich().pick(4), 2);
        due("pick(5)", rich().pick(5), 2);
        PinDuties x = rich();
        x.sweep();
        due("pick(4), swept here", x.pick(4), PinDuties.STATE);
        x.step(-1);
        due("pick(0), where it was dropped", x.pick(0), 2);
        due("pick(3), where it was swept", x.pick(3), PinDuties.STATE);
    }

    private static void pickFull() {
        full("pick(0)", EdgesOfDeeds::forty, x -> x.pick(0));
        PinDuties x = walked("p1010p0010", 39);
        due("pick(0), the fortieth", x.pick(0), 1);
        due("count(2)", x.count(2), 40);
    }

    private static void pickFullLast() {
        bad("pick(3), 40 deeds", EdgesOfDeeds::forty, x -> x.pick(3));
        notNow("pick(2), elsewhere, 40 deeds", EdgesOfDeeds::forty, x -> x.pick(2));
        notNow("pick(0), held, 40 deeds", EdgesOfDeeds::fortyHeld, x -> x.pick(0));
    }

    // ---- 17 drop

    private static PinDuties fortyHeld() {
        PinDuties x = street("p0010p0010");
        x.pick(0);
        walk(x, 39);
        return x;
    }

    private static void dropEightToNone() {
        PinDuties x = eightHere();
        pick(x, 0, 1, 2, 3, 4, 5, 6, 7);
        at(x, 9);
        for (int k = 0; k <= 7; k++) {
            due("drop(" + k + ")", x.drop(k), 7 - k);
            due("count(3)", x.count(3), 254 << k & 255);
            told(x, "pin(" + k + ", 1)", x.pin(k, 1), 9);
        }
        due("count(4)", x.count(4), 255);
        due("count(2)", x.count(2), 25);
    }

    private static void dropBad() {
        for (int k : outside(0, 5)) {
            bad("drop(" + k + "), of six", Edges::rich, x -> x.drop(k));
        }
        bad("drop(0), no pins", PinDuties::new, x -> x.drop(0));
        bad("drop(34), where 2 is held", Edges::rich, x -> x.drop(34));
    }

    private static void dropNotHeld() {
        for (int k = 0; k <= 5; k++) {
            final int pin = k;
            if (k != 2) {
                notNow("drop(" + k + ")", Edges::rich, x -> x.drop(pin));
            }
        }
        PinDuties x = rich();
        due("drop(2)", x.drop(2), 0);
        due("drop(2), dropped", x.drop(2), PinDuties.STATE);
    }

    private static void dropFull() {
        full("drop(0)", EdgesOfDeeds::fortyHeld, x -> x.drop(0));
        PinDuties x = fortyHeld();
        x.undo(39);
        due("drop(0), the fortieth", x.drop(0), 0);
        due("count(2)", x.count(2), 40);
    }

    private static void dropFullLast() {
        bad("drop(2), 40 deeds", EdgesOfDeeds::fortyHeld, x -> x.drop(2));
        notNow("drop(1), 40 deeds", EdgesOfDeeds::fortyHeld, x -> x.drop(1));
    }

    // ---- 18 sweep

    private static void sweepAllHere() {
        PinDuties x = eightHere();
        due("sweep() of eight", x.sweep(), 8);
        due("count(5)", x.count(5), 255);
        due("count(4)", x.count(4), 0);
        PinDuties y = rich();
        due("sweep() of two, one held", y.sweep(), 2);
        due("count(5)", y.count(5), 0x38);
        due("count(3)", y.count(3), 4);
        due("count(4)", y.count(4), 3);
        PinDuties z = street("p9010");
        due("sweep() in the last place", at(z, 9).sweep(), 1);
    }

    private static void sweepNone() {
        PinDuties x = street("p1010");
        due("sweep(), none there", x.sweep(), 0);
        due("count(2)", x.count(2), 1);
        due("undo(0)", x.undo(0), 1);
        PinDuties y = street("p0010");
        y.sweep();
        due("sweep(), all swept", y.sweep(), 0);
        due("count(2)", y.count(2), 2);
        PinDuties z = street("p0010");
        z.pick(0);
        due("sweep(), all held", z.sweep(), 0);
        due("count(2)", z.count(2), 2);
        due("count(3)", z.count(3), 1);
    }

    private static void sweepNoPins() {
        notNow("sweep()", PinDuties::new, x -> x.sweep());
    }

    private static void sweepFull() {
        full("sweep(), some there", EdgesOfDeeds::forty, x -> x.sweep());
        full("sweep(), none there", () -> walked("p9010", 40), x -> x.sweep());
        PinDuties x = walked("p1010", 39);
        due("sweep(), the fortieth", x.sweep(), 1);
        due("count(2)", x.count(2), 40);
    }

    // Without pins there are no deeds, so both never fit; what is done last of forty is still done.
    private static void sweepFullLast() {
        notNow("sweep(), no pins", PinDuties::new, x -> x.sweep());
        full("sweep(), 40 deeds", EdgesOfDeeds::forty, x -> x.sweep());
        PinDuties x = forty();
        x.undo(39);
        due("sweep(), the fortieth", x.sweep(), 1);
        due("sweep(), one more", x.sweep(), PinDuties.FULL);
    }

    // ---- 19 undo

    private static void undoFromEach() {
        for (int n = 0; n <= 9; n++) {
            PinDuties x = rich();
            due("undo(" + n + ") of nine", x.undo(n), 9 - n);
            due("count(2)", x.count(2), n);
            int[] places = {0, 0, 1, 1, 2, 2, 2, 2, 2, 3};
            due("count(1)", x.count(1), places[n]);
            int[] held = {0, 1, 1, 5, 5, 4, 5, 5, 4, 4};
            due("count(3)", x.count(3), held[n]);
            due("count(5)", x.count(5), n >= 7 ? 8 : 0);
            due("count(8): kept ones stay", x.count(8), 2);
        }
    }

    private static void undoEachKind() {
        PinDuties x = street("p0010p0010");
        due("step(1)", x.step(1), 1);
        due("undo(0) of a step", x.undo(0), 1);
        due("count(1)", x.count(1), 0);
        x.pick(0);
        due("undo(0) of a pick", x.undo(0), 1);
        told(x, "pin(0, 1)", x.pin(0, 1), 0);
        x.pick(0);
        x.step(1);
        x.drop(0);
        due("undo(2) of a drop", x.undo(2), 1);
        due("count(3)", x.count(3), 1);
        x.drop(0);
        x.step(1);
        due("undo(2) of a drop and a step", x.undo(2), 2);
        told(x, "pin(0, 6)", x.pin(0, 6), 1);
        due("count(1)", x.count(1), 1);
        x.undo(0);
        x.sweep();
        due("undo(0) of a sweep", x.undo(0), 1);
        due("count(4)", x.count(4), 3);
        due("count(5)", x.count(5), 0);
        x.step(1);
        x.step(-1);
        due("undo(1) of a step back", x.undo(1), 1);
        due("count(1)", x.count(1), 1);
        due("drop(0), what was undone can be done otherwise", x.drop(0), PinDuties.STATE);
    }

    private static void undoNone() {
        due("undo(0), no pins", new PinDuties().undo(0), 0);
        due("undo(0), no deeds", street("p0010").undo(0), 0);
        due("undo(9) of nine", rich().undo(9), 0);
        due("undo(40) of forty", forty().undo(40), 0);
        aside("undo(9)", Edges::rich, x -> x.undo(9));
        aside("undo(40)", EdgesOfDeeds::forty, x -> x.undo(40));
    }

    private static void undoAll() {
        PinDuties x = forty();
        due("undo(39)", x.undo(39), 1);
        due("undo(1)", x.undo(1), 38);
        due("undo(0)", x.undo(0), 1);
        due("count(2)", x.count(2), 0);
        due("undo(0)", forty().undo(0), 40);
        same("undo(0) of forty", forty(), forty());
        PinDuties y = forty();
        y.undo(0);
        same("undo(0) of forty, as told at first", y, street("p0010p0010p1010"));
    }

    private static void undoBad() {
        for (int n : outside(0, 9)) {
            bad("undo(" + n + ") of nine", Edges::rich, x -> x.undo(n));
        }
        bad("undo(41) of forty", EdgesOfDeeds::forty, x -> x.undo(41));
        bad("undo(1), no deeds", () -> street("p0010"), x -> x.undo(1));
        bad("undo(1), no pins", PinDuties::new, x -> x.undo(1));
        bad("undo(-1), no pins", PinDuties::new, x -> x.undo(-1));
    }

    // ---- 20 keep

    private static void keepInEach() {
        PinDuties x = street("p0010p0010p1010");
        for (int k = 0; k <= 2; k++) {
            x.pick(k == 2 ? 0 : k);
            due("keep(" + k + ")", x.keep(k), k == 2 ? 2 : k + 1);
            due("count(8)", x.count(8), k + 1);
        }
        due("keep(0), over another", x.keep(0), 2);
        due("count(8)", x.count(8), 3);
        x.undo(0);
        due("on(0)", x.on(0), 2);
        due("count(3)", x.count(3), 3);
        due("on(1)", x.on(1), 2);
        x.undo(1);
        x.keep(1);
        due("on(2): another place", x.on(2), 2);
        due("on(1), over another", x.on(1), 1);
    }

    private static void keepNoneAndForty() {
        PinDuties x = street("p0010p0010p1010");
        due("keep(0)", x.keep(0), 0);
        due("count(8), kept without deeds", x.count(8), 1);
        walk(x, 40);
        due("keep(1)", x.keep(1), 40);
        due("on(0)", x.on(0), 0);
        due("count(2)", x.count(2), 0);
        due("sweep()", x.sweep(), 2);
        due("on(1)", x.on(1), 40);
        due("count(2)", x.count(2), 40);
        due("step(1)", x.step(1), PinDuties.FULL);
        due("count(5)", x.count(5), 0);
        due("undo(39): the last of the deeds", x.undo(39), 1);
        due("count(1)", x.count(1), 1);
        due("sweep(), another fortieth deed", x.sweep(), 1);
        due("keep(2)", x.keep(2), 40);
        due("on(1): its own fortieth deed", x.on(1), 40);
        due("count(5)", x.count(5), 0);
        due("count(1)", x.count(1), 0);
        due("on(2): its own fortieth deed", x.on(2), 40);
        due("count(5)", x.count(5), 4);
        due("count(1)", x.count(1), 1);
    }

    private static void keepIsNoDeed() {
        PinDuties x = rich();
        due("keep(1)", x.keep(1), 9);
        due("count(2)", x.count(2), 9);
        due("count(1)", x.count(1), 3);
        due("asked(), not told by keep()", x.asked(), -7);
        due("keep(1), 40 deeds", forty().keep(1), 40);
    }

    private static void keepBad() {
        for (int k : outside(0, 2)) {
            bad("keep(" + k + ")", Edges::rich, x -> x.keep(k));
            bad("keep(" + k + "), no pins", PinDuties::new, x -> x.keep(k));
        }
    }

    private static void keepNoPins() {
        for (int k = 0; k <= 2; k++) {
            final int place = k;
            notNow("keep(" + k + ")", PinDuties::new, x -> x.keep(place));
        }
    }

    // ---- 21 on

    private static void onAsItWas() {
        PinDuties x = street("p0138c0214l1425m2637b3346w3522");
        pick(x, 0, 1);
        x.step(1);
        x.drop(1);
        x.sweep();
        PinDuties y = street("p0138c0214l1425m2637b3346w3522");
        pick(y, 0, 1);
        y.step(1);
        y.drop(1);
        y.sweep();
        x.keep(2);
        y.keep(2);
        x.drop(0);
        at(x, 9);
        x.undo(2);
        x.sweep();
        due("on(2)", x.on(2), 5);
        same("on(2), as it was", x, y);
    }

    private static void onAgainAndAgain() {
        PinDuties x = rich();
        for (int i = 0; i < 3; i++) {
            due("on(0)", x.on(0), 6);
            due("count(3)", x.count(3), 5);
            due("count(5)", x.count(5), 0);
            x.drop(2);
            x.sweep();
            x.undo(i);
            x.step(1);
            due("on(2)", x.on(2), 9);
            due("count(3)", x.count(3), 4);
            due("count(5)", x.count(5), 8);
            due("count(1)", x.count(1), 3);
            due("count(8)", x.count(8), 2);
        }
        same("on(2), again and again", x, rich());
    }

    private static void onBad() {
        for (int k : outside(0, 2)) {
            bad("on(" + k + ")", Edges::rich, x -> x.on(k));
        }
    }

    private static void onNothing() {
        nothing("on(1)", Edges::rich, x -> x.on(1));
        PinDuties x = rich();
        x.street(0);
        finds(x, "on(0), gone with the street", x.on(0), 1);
    }

    private static void onNoPins() {
        for (int k = 0; k <= 2; k++) {
            final int place = k;
            nothing("on(" + k + "), no pins", PinDuties::new, x -> x.on(place));
        }
        bad("on(3), no pins", PinDuties::new, x -> x.on(3));
    }
}
