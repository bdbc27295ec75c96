/** Promises 33 to 35: chances that the magnet was there, means, lots. */
public final class ChancesTest {
    public static void main(String[] args) {
        odds();
        oddsOfHeld();
        mid();
        refused();
        lots();
        lotsByHand();
        lotsRefused();
        Check.end();
    }

    // Promise 33
    private static void odds() {
        PinDuties x = Check.street("p0015p9113");
        Check.chance(x, "odds(8, 3): both are left", x.odds(8, 3), 9, 16);
        Check.chance(x, "odds(5, 3): the first one is left", x.odds(5, 3), 3, 4);
        Check.chance(x, "odds(4, 3)", x.odds(4, 3), 3, 4);
        Check.chance(x, "odds(3, 3): not both gone", x.odds(3, 3), 15, 16);
        Check.chance(x, "odds(1, 4)", x.odds(1, 4), 8, 9);
        Check.chance(x, "odds(0, 3)", x.odds(0, 3), 1, 1);
        Check.chance(x, "odds(9, 3)", x.odds(9, 3), 0, 1);
        Check.chance(x, "odds(200, 0)", x.odds(200, 0), 0, 1);
        Check.chance(x, "odds(8, 0)", x.odds(8, 0), 1, 1);
        Check.chance(x, "odds(1, 12)", x.odds(1, 12), 0, 1);
        Check.chance(x, "odds(0, 12)", x.odds(0, 12), 1, 1);
        PinDuties y = Check.street("p0015p0013c0219");
        Check.chance(y, "odds(3, 6): clashing", y.odds(3, 6), 3, 4);
        Check.chance(y, "odds(6, 6): clashing", y.odds(6, 6), 0, 1);
        PinDuties z = Check.street("p0011p0111p0211p0311p0411p0511p0611p0711");
        Check.chance(z, "odds(8, 11): all eight", z.odds(8, 11), 1, 429981696);
        Check.chance(z, "odds(1, 11): any of eight", z.odds(1, 11), 429981696 - 214358881, 429981696);
    }

    private static void oddsOfHeld() {
        PinDuties x = Check.street("p0015p0113p9216");
        x.pick(0);
        Check.chance(x, "odds(5, 12): what is held stays", x.odds(5, 12), 1, 1);
        Check.chance(x, "odds(6, 6): more than it", x.odds(6, 6), 3, 4);
        x.sweep();
        Check.chance(x, "odds(6, 6): one lies", x.odds(6, 6), 1, 2);
        Check.chance(x, "odds(11, 6): one lies", x.odds(11, 6), 1, 2);
        Check.due("count(5): aside", x.count(5), 2);
        Check.due("asked(), not told by odds()", x.asked(), 0);
    }

    // Promise 34
    private static void mid() {
        PinDuties x = Check.street("p0015p9113");
        Check.chance(x, "mid(0)", x.mid(0), 8, 1);
        Check.chance(x, "mid(3)", x.mid(3), 6, 1);
        Check.chance(x, "mid(4)", x.mid(4), 16, 3);
        Check.chance(x, "mid(12)", x.mid(12), 0, 1);
        PinDuties y = Check.street("p0015p0013c0219");
        Check.chance(y, "mid(6): clashing", y.mid(6), 13, 4);
        x.pick(0);
        Check.chance(x, "mid(12): what is held stays", x.mid(12), 5, 1);
        Check.chance(x, "mid(6)", x.mid(6), 13, 2);
        Check.due("asked(), not told by mid()", x.asked(), 0);
    }

    private static void refused() {
        PinDuties x = new PinDuties();
        int[][] bad = {{-1, 0}, {201, 0}, {0, -1}, {0, 13}};
        for (int[] b : bad) {
            Check.due("odds(" + b[0] + ", " + b[1] + "), no pins: BAD first", x.odds(b[0], b[1]), PinDuties.BAD);
        }
        Check.due("odds(0, 0), no pins", x.odds(0, 0), PinDuties.STATE);
        Check.due("mid(-1), no pins: BAD first", x.mid(-1), PinDuties.BAD);
        Check.due("mid(13), no pins: BAD first", x.mid(13), PinDuties.BAD);
        Check.due("mid(0), no pins", x.mid(0), PinDuties.STATE);
        Check.due("upper(), none told", x.upper(), 0);
        Check.due("lower(), none told", x.lower(), 1);
        PinDuties y = Check.street("p0015");
        y.mid(4);
        for (int[] b : bad) {
            Check.due("odds(" + b[0] + ", " + b[1] + ")", y.odds(b[0], b[1]), PinDuties.BAD);
        }
        Check.due("mid(-1)", y.mid(-1), PinDuties.BAD);
        Check.due("mid(13)", y.mid(13), PinDuties.BAD);
        Check.due("upper() stays, if refused", y.upper(), 10);
        Check.due("lower() stays, if refused", y.lower(), 3);
    }

    // Promise 35, told once more in a plain way: every deed by its own call on a second street.
    private static void lots() {
        String signs = "p0011c0122m1213p1014w2015p3016b5017";
        for (int many = 1; many <= 7; many++) {
            for (int seed = 1; seed < 2000000000; seed += 98765432) {
                PinDuties x = Check.street(signs.substring(0, 5 * many));
                PinDuties y = Check.street(signs.substring(0, 5 * many));
                x.step(1);
                y.step(1);
                int n = 1 + seed % 20;
                long number = seed;
                for (int i = 0; i < n; i++) {
                    number = 48271L * number % 2147483647L;
                    deedByLot(y, number);
                }
                Check.due("lots(" + n + ", " + seed + ")", x.lots(n, seed), y.count(1));
                Check.due("lots(" + n + ", " + seed + "), then digest()", x.digest(), y.digest());
                Check.due("count(2)", x.count(2), n + 1);
                Check.due("undo(1): they are deeds", x.undo(1), n);
            }
        }
    }

    private static void deedByLot(PinDuties y, long number) {
        int k = (int) (number / 8 % y.count(0));
        if (y.drop(k) < 0 && y.pick(k) < 0) {
            int s = number % 2 == 0 ? 1 : -1;
            if (y.step(s) < 0) {
                y.step(-s);
            }
        }
    }

    private static void lotsByHand() {
        // Of seed 1: 48271 (by 8: 6033), 182605794 (22825724), 1291394886 (161424360), 1914720637 (239340079).
        PinDuties x = Check.street("p0011p2011");
        Check.due("lots(1, 1): pin 1 is not here, odd, at an end", x.lots(1, 1), 1);
        Check.due("count(3)", x.count(3), 0);
        x.undo(0);
        Check.due("lots(2, 1): pin 0 is not here, even", x.lots(2, 1), 2);
        x.undo(0);
        Check.due("lots(3, 1): pin 0 is not here, even", x.lots(3, 1), 3);
        x.undo(0);
        Check.due("lots(4, 1): pin 1 is not here, odd", x.lots(4, 1), 2);
        PinDuties y = Check.street("p1011");
        Check.due("lots(2, 1): picked up in 1", y.lots(2, 1), 1);
        Check.due("count(3)", y.count(3), 1);
        y.undo(0);
        Check.due("lots(3, 1): dropped in 1", y.lots(3, 1), 1);
        Check.due("count(3)", y.count(3), 0);
        Check.due("count(2)", y.count(2), 3);
        PinDuties z = Check.street("p0011");
        for (int i = 0; i < 9; i++) {
            z.step(1);
        }
        Check.due("lots(2, 1): back, on", z.lots(2, 1), 9);
        Check.due("lots(1, 182605794): on is no more", z.lots(1, 182605794), 8);
    }

    private static void lotsRefused() {
        PinDuties x = new PinDuties();
        int[][] bad = {{0, 1}, {21, 1}, {-1, 1}, {1, 0}, {1, -1}, {1, 2147483647}, {1, Integer.MIN_VALUE}};
        for (int[] b : bad) {
            Check.due("lots(" + b[0] + ", " + b[1] + "), no pins: BAD first", x.lots(b[0], b[1]), PinDuties.BAD);
        }
        Check.due("lots(1, 1), no pins", x.lots(1, 1), PinDuties.STATE);
        x = Check.street("p0011");
        for (int[] b : bad) {
            Check.due("lots(" + b[0] + ", " + b[1] + ")", x.lots(b[0], b[1]), PinDuties.BAD);
        }
        Check.due("lots(20, greatest seed)", x.lots(20, 2147483646) < 0 ? 1 : 0, 0);
        x.lots(19, 5);
        Check.due("count(2)", x.count(2), 39);
        Check.due("lots(2, 1)", x.lots(2, 1), PinDuties.FULL);
        Check.due("lots(21, 1): BAD first", x.lots(21, 1), PinDuties.BAD);
        Check.due("count(2): none of them done", x.count(2), 39);
        Check.due("lots(1, 1)", x.lots(1, 1) < 0 ? 1 : 0, 0);
        Check.due("lots(1, 1), 40 deeds", x.lots(1, 1), PinDuties.FULL);
    }
}
