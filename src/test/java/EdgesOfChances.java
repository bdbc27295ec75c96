/** The edges of promises 33 to 35: chances that the magnet was there, means, lots. */
final class EdgesOfChances extends Edges {
    private static final String APART = "p0011p0111p0211p0311p0411p0511p0611p0711";
    private static final int GREATEST_SEED = 2147483646;

    static void all() {
        promise(33);
        sentence("Chances that best() tells v (0 .. 200) or more,", EdgesOfChances::oddsByEachWorth);
        sentence("v (0 .. 200)", EdgesOfChances::oddsOfTheMost);
        sentence("if each PIN that lies is SWEPT", EdgesOfChances::oddsOfThoseThatLie);
        sentence("by p (0 .. 12) of 12,", EdgesOfChances::oddsByEachPart);
        sentence("each by itself: 1.", EdgesOfChances::oddsOfEight);
        sentence("BAD;", EdgesOfChances::oddsBad);
        sentence("STATE: no PINS.", EdgesOfChances::oddsNoPins);
        promise(34);
        sentence("The mean of what best() tells then: 1.", EdgesOfChances::midByEachPart);
        sentence("The mean of what best() tells then: 1.", EdgesOfChances::midOfEight);
        sentence("The mean of what best() tells then: 1.", EdgesOfChances::midOfThoseThatLie);
        sentence("BAD;", EdgesOfChances::midBad);
        sentence("STATE: no PINS.", EdgesOfChances::midNoPins);
        lots();
    }

    private static void lots() {
        promise(35);
        sentence("n (1 .. 20) DEEDS truly by LOTS of a seed:", EdgesOfChances::lotsAreDeeds);
        sentence("a number comes from the one ahead by 48271 times it modulo 2147483647,",
            EdgesOfChances::lotsOneByOne);
        sentence("the first from the seed (1 .. 2147483646):", EdgesOfChances::lotsOfLeastAndGreatestSeed);
        sentence("the PIN that it by 8, cut, modulo how many there are", EdgesOfChances::lotsPinOfAll);
        sentence("is dropped, if it is HELD;", EdgesOfChances::lotsDrop);
        sentence("is picked up, if it lies here;", EdgesOfChances::lotsPick);
        sentence("else there is a STEP on, if the number is even, back, if not", EdgesOfChances::lotsStep);
        sentence("(at an end the other way):", EdgesOfChances::lotsAtAnEnd);
        sentence("the PLACE then.", EdgesOfChances::lotsPlace);
        sentence("BAD;", EdgesOfChances::lotsBad);
        sentence("STATE: no PINS;", EdgesOfChances::lotsNoPins);
        sentence("FULL: with n more there would be more than 40 DEEDS.", EdgesOfChances::lotsFull);
        sentence("(FULL last.)", EdgesOfChances::lotsFullLast);
    }

    /** What is told of chances in the Terms. */
    static void terms() {
        sentence("Chances, means are told by upper(), lower(), in lowest terms,", EdgesOfChances::lowestTerms);
        sentence("the lower number above 0 (0 by 1).", EdgesOfChances::noughtByOne);
    }

    // ---- the Terms

    private static void lowestTerms() {
        int[][] by = {{1, 1}, {11, 12}, {5, 6}, {3, 4}, {2, 3}, {7, 12}, {1, 2}, {5, 12}, {1, 3}, {1, 4}, {1, 6},
            {1, 12}, {0, 1}};
        PinDuties x = street("p0011");
        for (int p = 0; p <= 12; p++) {
            chance(x, "odds(1, " + p + ")", x.odds(1, p), by[p][0], by[p][1]);
            chance(x, "mid(" + p + ")", x.mid(p), by[p][0], by[p][1]);
        }
        PinDuties y = street("p0012p0112");
        chance(y, "mid(6): a whole number", y.mid(6), 2, 1);
        chance(y, "mid(1)", y.mid(1), 11, 3);
    }

    private static void noughtByOne() {
        PinDuties x = street(APART);
        chance(x, "odds(9, 5)", x.odds(9, 5), 0, 1);
        chance(x, "odds(1, 12)", x.odds(1, 12), 0, 1);
        chance(x, "mid(12)", x.mid(12), 0, 1);
        PinDuties y = street("c0019w0149");
        chance(y, "mid(0): worth below 0", y.mid(0), 0, 1);
        chance(y, "odds(1, 0): worth below 0", y.odds(1, 0), 0, 1);
    }

    // ---- 33 odds

    private static void oddsByEachWorth() {
        // Worth 1, 2, 4: any number from 0 to 7 with the like chance, by 6 of 12.
        PinDuties x = street("p0011p0112p0214");
        for (int v = 0; v <= 200; v += v < 10 ? 1 : 19) {
            int over = Math.max(0, 8 - v);
            int by = over == 0 ? 8 : Integer.lowestOneBit(over);
            chance(x, "odds(" + v + ", 6)", x.odds(v, 6), over / by, 8 / by);
        }
        chance(x, "odds(7, 6)", x.odds(7, 6), 1, 8);
        chance(x, "odds(8, 6)", x.odds(8, 6), 0, 1);
        chance(x, "odds(0, 6)", x.odds(0, 6), 1, 1);
        aside("odds(5, 5)", Edges::rich, y -> y.odds(5, 5));
        due("asked(), not told by odds()", x.asked(), 0);
    }

    private static void oddsOfTheMost() {
        // Three mares for four hours each are worth 108; the fourth one clashes with the third.
        PinDuties x = street("m0049m0449m8849m0819");
        chance(x, "odds(108, 0)", x.odds(108, 0), 1, 1);
        chance(x, "odds(109, 0)", x.odds(109, 0), 0, 1);
        chance(x, "odds(200, 0)", x.odds(200, 0), 0, 1);
        chance(x, "odds(200, 12)", x.odds(200, 12), 0, 1);
        chance(x, "odds(0, 12)", x.odds(0, 12), 1, 1);
    }

    private static void oddsOfThoseThatLie() {
        PinDuties x = street("p0015p0113p9214");
        x.pick(0);
        chance(x, "odds(5, 12): what is held stays", x.odds(5, 12), 1, 1);
        chance(x, "odds(8, 6)", x.odds(8, 6), 3, 4);
        x.sweep();
        chance(x, "odds(9, 4): swept once and for all", x.odds(9, 4), 2, 3);
        chance(x, "odds(10, 0)", x.odds(10, 0), 0, 1);
        x.drop(0);
        chance(x, "odds(5, 6): dropped", x.odds(5, 6), 1, 2);
        PinDuties y = street("p0015");
        y.sweep();
        chance(y, "odds(0, 3), none lies", y.odds(0, 3), 1, 1);
        chance(y, "odds(1, 3), none lies", y.odds(1, 3), 0, 1);
        PinDuties z = street("p0015p0016");
        z.pick(0);
        chance(z, "odds(6, 3): held ones clash with those that lie", z.odds(6, 3), 3, 4);
        chance(z, "odds(7, 3): held ones clash with those that lie", z.odds(7, 3), 0, 1);
    }

    private static void oddsByEachPart() {
        PinDuties x = street("p0015");
        chance(x, "odds(5, 0)", x.odds(5, 0), 1, 1);
        chance(x, "odds(5, 1)", x.odds(5, 1), 11, 12);
        chance(x, "odds(5, 11)", x.odds(5, 11), 1, 12);
        chance(x, "odds(5, 12)", x.odds(5, 12), 0, 1);
    }

    private static void oddsOfEight() {
        PinDuties x = street(APART);
        long all = 429981696;
        chance(x, "odds(8, 1)", x.odds(8, 1), 214358881, all);
        chance(x, "odds(8, 11)", x.odds(8, 11), 1, all);
        chance(x, "odds(1, 11)", x.odds(1, 11), all - 214358881, all);
        chance(x, "odds(1, 1)", x.odds(1, 1), all - 1, all);
        chance(x, "odds(1, 6)", x.odds(1, 6), 255, 256);
        chance(x, "odds(4, 6)", x.odds(4, 6), 163, 256);
        chance(x, "odds(8, 0)", x.odds(8, 0), 1, 1);
        chance(x, "odds(0, 7)", x.odds(0, 7), 1, 1);
    }

    private static void oddsBad() {
        for (int v : outside(0, 200)) {
            bad("odds(" + v + ", 3)", Edges::rich, x -> x.odds(v, 3));
            bad("odds(" + v + ", 3), no pins", PinDuties::new, x -> x.odds(v, 3));
        }
        for (int p : outside(0, 12)) {
            bad("odds(3, " + p + ")", Edges::rich, x -> x.odds(3, p));
            bad("odds(3, " + p + "), no pins", PinDuties::new, x -> x.odds(3, p));
        }
    }

    private static void oddsNoPins() {
        notNow("odds(0, 0)", PinDuties::new, x -> x.odds(0, 0));
        notNow("odds(200, 12)", PinDuties::new, x -> x.odds(200, 12));
    }

    // ---- 34 mid

    private static void midByEachPart() {
        PinDuties x = street("p0015p0013");
        // 5 by 12 - p of 12, else 3 by 12 - p of 12.
        for (int p = 0; p <= 12; p++) {
            long over = 60L * (12 - p) + 3L * p * (12 - p);
            long by = over == 0 ? 144 : greatestOfBoth(over, 144);
            chance(x, "mid(" + p + ")", x.mid(p), over / by, 144 / by);
        }
        chance(x, "mid(6)", x.mid(6), 13, 4);
        aside("mid(5)", Edges::rich, y -> y.mid(5));
        due("asked(), not told by mid()", x.asked(), 0);
    }

    private static long greatestOfBoth(long one, long other) {
        long by = Math.min(one, other);
        while (one % by != 0 || other % by != 0) {
            by--;
        }
        return by;
    }

    private static void midOfEight() {
        PinDuties x = street(APART);
        int[][] by = {{8, 1}, {22, 3}, {20, 3}, {6, 1}, {16, 3}, {14, 3}, {4, 1}, {10, 3}, {8, 3}, {2, 1}, {4, 3},
            {2, 3}, {0, 1}};
        for (int p = 0; p <= 12; p++) {
            chance(x, "mid(" + p + ")", x.mid(p), by[p][0], by[p][1]);
        }
        PinDuties y = street("p0041p0041p0041p0041p0041p0041p0041p0041");
        chance(y, "mid(11): any of eight", y.mid(11), 429981696 - 214358881, 429981696);
    }

    private static void midOfThoseThatLie() {
        PinDuties x = street("p0015p0113p9214c9319");
        x.pick(0);
        chance(x, "mid(12): what is held stays", x.mid(12), 5, 1);
        chance(x, "mid(6)", x.mid(6), 17, 2);
        x.sweep();
        chance(x, "mid(6): swept once and for all", x.mid(6), 7, 1);
        x.drop(0);
        x.sweep();
        chance(x, "mid(6): one lies", x.mid(6), 2, 1);
        at(x, 9);
        x.sweep();
        chance(x, "mid(0): none lies", x.mid(0), 0, 1);
    }

    private static void midBad() {
        for (int p : outside(0, 12)) {
            bad("mid(" + p + ")", Edges::rich, x -> x.mid(p));
            bad("mid(" + p + "), no pins", PinDuties::new, x -> x.mid(p));
        }
    }

    private static void midNoPins() {
        notNow("mid(0)", PinDuties::new, x -> x.mid(0));
        notNow("mid(12)", PinDuties::new, x -> x.mid(12));
    }

    // ---- 35 lots

    /** The number that comes from a seed by n times. */
    private static long numberOf(long seed, int n) {
        long number = seed;
        for (int i = 0; i < n; i++) {
            number = number * 48271 % 2147483647;
        }
        return number;
    }

    /** The deed of a number, done by its own call. */
    private static void byHand(PinDuties y, long number) {
        int k = (int) (number / 8 % y.count(0));
        boolean on = number % 2 == 0;
        if ((y.count(3) >> k & 1) == 1) {
            y.drop(k);
        } else if (y.pick(k) == PinDuties.STATE) {
            boolean other = on ? y.count(1) == 9 : y.count(1) == 0;
            y.step(on != other ? 1 : -1);
        }
    }

    private static PinDuties eight() {
        return street("p0011c0121l0231m1041b1111w1221p2031c3041");
    }

    private static void lotsAreDeeds() {
        for (int n = 1; n <= 20; n++) {
            PinDuties x = eight();
            due("lots(" + n + ", 7), not refused (1: so)", x.lots(n, 7) >= 0 ? 1 : 0, 1);
            due("count(2)", x.count(2), n);
            due("undo(0)", x.undo(0), n);
            same("undo(0) of lots", x, eight());
        }
        PinDuties x = rich();
        x.lots(20, 99);
        due("count(2)", x.count(2), 29);
        due("undo(9)", x.undo(9), 20);
        same("undo(9) of lots", x, rich());
        due("asked(), not told by lots()", eight().asked(), 0);
    }

    private static void lotsOneByOne() {
        for (int seed : new int[] {1, 2, 44488, 1000000007, GREATEST_SEED}) {
            PinDuties x = eight();
            PinDuties y = eight();
            for (int i = 1; i <= 20; i++) {
                byHand(y, numberOf(seed, i));
            }
            due("lots(20, " + seed + ")", x.lots(20, seed), y.count(1));
            same("lots(20, " + seed + ")", x, y);
            PinDuties one = eight();
            PinDuties all = eight();
            for (int i = 0; i < 20; i++) {
                one.lots(1, (int) numberOf(seed, i));
            }
            all.lots(20, seed);
            same("lots(1, ..) twenty times", one, all);
        }
    }

    private static void lotsOfLeastAndGreatestSeed() {
        // 48271: odd, by 8 is 6033, which is 0 modulo 3. 2147435376: even, by 8 is 268429422, which is 0 modulo 3.
        PinDuties x = street("p0011p0011p0011");
        due("lots(1, 1)", x.lots(1, 1), 0);
        due("count(3)", x.count(3), 1);
        PinDuties y = street("p0011p0011p0011");
        due("lots(1, 2147483646)", y.lots(1, GREATEST_SEED), 0);
        due("count(3)", y.count(3), 1);
        PinDuties z = street("p9011");
        z.step(1);
        due("lots(1, 1): odd, back", z.lots(1, 1), 0);
        z.step(1);
        due("lots(1, 2147483646): even, on", z.lots(1, GREATEST_SEED), 2);
    }

    /** A seed whose first number is this one. */
    private static int seedFor(long number) {
        // 48271 times 1899818559 is 1 modulo 2147483647.
        long seed = number * 1899818559L % 2147483647L;
        due("the number that comes from " + seed, numberOf(seed, 1), number);
        return (int) seed;
    }

    private static void lotsPinOfAll() {
        for (int k = 0; k <= 7; k++) {
            for (int rest = 0; rest <= 7; rest++) {
                PinDuties x = street("p0011p0011p0011p0011p0011p0011p0011p0011");
                int number = 8 * (8 * 1000 + k) + rest;
                due("lots(1, ..) of number " + number, x.lots(1, seedFor(number)), 0);
                due("count(3)", x.count(3), 1 << k);
            }
        }
        // Of three pins 0 is held, 1 swept, 2 elsewhere: all three count.
        for (int k = 0; k <= 2; k++) {
            PinDuties x = street("p0011p0011p9011");
            x.pick(0);
            x.sweep();
            int at = x.lots(1, seedFor(8 * (3 * 500 + k)));
            due("lots(1, ..) of pin " + k, at, k == 0 ? 0 : 1);
            due("count(3)", x.count(3), k == 0 ? 0 : 1);
        }
        PinDuties x = street("p0011");
        due("lots(1, ..) of the least number", x.lots(1, seedFor(1)), 0);
        due("count(3)", x.count(3), 1);
        due("lots(1, ..) of the greatest number", x.lots(1, seedFor(GREATEST_SEED)), 0);
        due("count(3)", x.count(3), 0);
    }

    private static void lotsDrop() {
        PinDuties x = street("p0011p0011");
        pick(x, 0, 1);
        at(x, 4);
        due("lots(1, ..) of pin 1", x.lots(1, seedFor(8 * 1001)), 4);
        due("count(3)", x.count(3), 1);
        told(x, "pin(1, 1)", x.pin(1, 1), 4);
        due("lots(1, ..) of pin 0", x.lots(1, seedFor(8 * 1000)), 4);
        due("count(3)", x.count(3), 0);
        due("count(2)", x.count(2), 8);
    }

    private static void lotsPick() {
        PinDuties x = street("p0011p3011p3011");
        at(x, 3);
        due("lots(1, ..) of pin 1", x.lots(1, seedFor(8 * 3001)), 3);
        due("count(3)", x.count(3), 2);
        due("lots(1, ..) of pin 2", x.lots(1, seedFor(8 * 3002 + 1)), 3);
        due("count(3)", x.count(3), 6);
        due("lots(1, ..) of pin 0, elsewhere", x.lots(1, seedFor(8 * 3000)), 4);
        due("count(3)", x.count(3), 6);
        PinDuties y = street("p0011");
        y.sweep();
        due("lots(1, ..) of one swept here", y.lots(1, seedFor(8)), 1);
        due("count(3)", y.count(3), 0);
    }

    private static void lotsStep() {
        for (int place = 1; place <= 8; place++) {
            PinDuties x = at(street("p0011"), place);
            due("lots(1, ..), even, in " + place, x.lots(1, seedFor(800)), place + 1);
            x.step(-1);
            due("lots(1, ..), odd, in " + place, x.lots(1, seedFor(801)), place - 1);
        }
    }

    private static void lotsAtAnEnd() {
        PinDuties x = street("p5011");
        due("lots(1, ..), odd, in 0: on", x.lots(1, seedFor(801)), 1);
        due("lots(1, ..), odd, in 1: back", x.lots(1, seedFor(801)), 0);
        due("lots(1, ..), even, in 0: on", x.lots(1, seedFor(800)), 1);
        at(x, 9);
        due("lots(1, ..), even, in 9: back", x.lots(1, seedFor(800)), 8);
        due("lots(1, ..), even, in 8: on", x.lots(1, seedFor(800)), 9);
        due("lots(1, ..), odd, in 9: back", x.lots(1, seedFor(801)), 8);
    }

    private static void lotsPlace() {
        PinDuties x = eight();
        for (int seed = 1; seed <= 4; seed++) {
            due("lots(9, " + seed + ")", x.lots(9, seed), x.count(1));
        }
    }

    private static void lotsBad() {
        for (int n : outside(1, 20)) {
            bad("lots(" + n + ", 5)", Edges::rich, x -> x.lots(n, 5));
            bad("lots(" + n + ", 5), no pins", PinDuties::new, x -> x.lots(n, 5));
        }
        for (int seed : new int[] {0, -1, -2, 2147483647, Integer.MIN_VALUE}) {
            bad("lots(1, " + seed + ")", Edges::rich, x -> x.lots(1, seed));
            bad("lots(1, " + seed + "), no pins", PinDuties::new, x -> x.lots(1, seed));
        }
    }

    private static void lotsNoPins() {
        notNow("lots(1, 1)", PinDuties::new, x -> x.lots(1, 1));
        notNow("lots(20, 2147483646)", PinDuties::new, x -> x.lots(20, GREATEST_SEED));
    }

    private static void lotsFull() {
        for (int n = 1; n <= 20; n++) {
            final int more = n;
            full("lots(" + n + ", 5), " + (41 - n) + " deeds", () -> walked("p9011", 41 - more), x -> x.lots(more, 5));
            PinDuties x = walked("p9011", 40 - n);
            due("lots(" + n + ", 5), not refused (1: so)", x.lots(n, 5) >= 0 ? 1 : 0, 1);
            due("count(2)", x.count(2), 40);
        }
    }

    private static void lotsFullLast() {
        bad("lots(0, 1), 40 deeds", () -> walked("p9011", 40), x -> x.lots(0, 1));
        bad("lots(21, 1), 40 deeds", () -> walked("p9011", 40), x -> x.lots(21, 1));
        bad("lots(1, 0), 40 deeds", () -> walked("p9011", 40), x -> x.lots(1, 0));
    }
}
