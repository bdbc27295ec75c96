/** Promises 36 to 42: what is told. */
public final class ToldTest {
    public static void main(String[] args) {
        asked();
        askedStays();
        fractions();
        count();
        findings();
        digest();
        digestOfAll();
        Check.end();
    }

    // Promise 36; that each of its calls tells by asked() is held in their own tests.
    private static void asked() {
        PinDuties x = new PinDuties();
        Check.due("asked(), none before", x.asked(), 0);
        Check.type(x, 0, "p0129m1133");
        x.row(0, 2);
        x.fault(0);
        x.street(0);
        Check.due("asked(), still none", x.asked(), 0);
        Check.told(x, "pin(1, 5)", x.pin(1, 5), 9);
        Check.told(x, "worth(1, 9)", x.worth(1, 9), 27);
    }

    private static void askedStays() {
        PinDuties x = Check.street("p0129m1133");
        x.pin(1, 5);
        x.row(1, 3);
        x.text(1, 3);
        x.put(1, 0, 4);
        x.copy(1, 0, 1, 1, 1);
        x.tear(1);
        x.mark(1, 3);
        x.step(1);
        x.step(-1);
        x.pick(0);
        x.drop(0);
        x.keep(0);
        x.sweep();
        x.undo(1);
        x.on(0);
        x.row(2, 0);
        x.kinds(0, 2);
        x.lucks(0, 9);
        x.duel(2);
        x.odds(3, 3);
        x.mid(3);
        x.lots(2, 2);
        x.upper();
        x.lower();
        x.count(0);
        x.finding();
        x.findings(1);
        x.digest();
        Check.due("asked() stays with calls that do not tell by it", x.asked(), 9);
        x.at(3, 0);
        x.lay(2, 0, 1);
        x.mean(2);
        x.pin(2, 0);
        x.worth(0, 10);
        x.best(6);
        x.walk(4);
        x.within(21);
        x.whose(2);
        x.test(0, 3);
        Check.due("asked() stays with calls refused", x.asked(), 9);
    }

    // Promises 37, 38
    private static void fractions() {
        PinDuties x = new PinDuties();
        Check.due("upper(), none before", x.upper(), 0);
        Check.due("lower(), none before", x.lower(), 1);
        Check.type(x, 0, "p0015p9113");
        x.street(0);
        Check.chance(x, "odds(8, 3)", x.odds(8, 3), 9, 16);
        x.best(0);
        x.mean(0);
        Check.due("upper() stays", x.upper(), 9);
        Check.due("lower() stays", x.lower(), 16);
        x.street(0);
        Check.due("upper() stays with a street anew", x.upper(), 9);
        Check.chance(x, "mid(12): 0 by 1", x.mid(12), 0, 1);
    }

    // Promise 39
    private static void count() {
        PinDuties x = Check.street("p0011c0022w1033l1044b1041m3011l4011");
        x.pick(0);
        x.sweep();
        x.step(1);
        x.pick(3);
        x.row(2, 0);
        x.row(3, 3);
        x.row(3, 4);
        x.text(3, 0);
        x.keep(1);
        int[] want = {7, 1, 4, 9, 116, 2, 2, 2, 1, 2, 3};
        for (int what = 0; what <= 10; what++) {
            Check.due("count(" + what + ")", x.count(what), want[what]);
        }
        x.keep(0);
        x.keep(0);
        x.tear(3);
        Check.due("count(8)", x.count(8), 2);
        Check.due("count(6)", x.count(6), 1);
        Check.due("count(11)", x.count(11), PinDuties.BAD);
        Check.due("count(12)", x.count(12), PinDuties.BAD);
        Check.due("count(-1)", x.count(-1), PinDuties.BAD);
    }

    // Promises 40, 41
    private static void findings() {
        PinDuties x = new PinDuties();
        Check.due("finding(), none before", x.finding(), 0);
        for (int f = 1; f <= 5; f++) {
            Check.due("findings(" + f + "), none before", x.findings(f), 0);
        }
        Check.due("findings(0)", x.findings(0), PinDuties.BAD);
        Check.due("findings(6)", x.findings(6), PinDuties.BAD);
        Check.due("findings(-1)", x.findings(-1), PinDuties.BAD);
        x.tear(0);
        x.fault(0);
        x.row(0, 0);
        x.at(0, 0);
        x.mean(0);
        x.row(0, -1);
        x.text(0, -1);
        x.row(0, -2);
        Check.due("finding()", x.finding(), 5);
        x.row(0, 41);
        x.step(1);
        Check.due("finding(), as BAD and STATE are none", x.finding(), 5);
        Check.type(x, 0, "p0011");
        x.street(0);
        x.mark(0, 1);
        x.mark(0, 1);
        Check.due("finding()", x.finding(), 3);
        int[] want = {2, 1, 2, 1, 3};
        for (int f = 1; f <= 5; f++) {
            Check.due("findings(" + f + ")", x.findings(f), want[f - 1]);
        }
    }

    // Promise 42
    private static void digest() {
        PinDuties x = new PinDuties();
        long h = 17;
        for (int i = 0; i < 11; i++) {
            h = 31 * h;
        }
        for (int i = 0; i < 13; i++) {
            h = 31 * h - 1;
        }
        Check.due("digest(), new", x.digest(), h);
    }

    private static void digestOfAll() {
        PinDuties x = Check.street("c0138 b1346l0018");
        x.pick(0);
        x.sweep();
        x.keep(1);
        x.step(1);
        x.text(2, 1);
        x.put(2, 0, -3);
        Check.fill(x, 4, 5, -6);
        x.row(1, 0);
        x.pin(0, 4);
        int[] values = {
            3, 1, 3, 1, 2, 4, 2, 2, 1, 1, 2,
            1, -9, 14, 3, 8, -2, 1, 0,
            4, 1, 0x78, 4, 6, 18, 0, 0,
            2, -9, 1, 1, 8, 8, 0, 1,
            -1, 2, -1,
            -1, 0, -1, -1, 2, 5, -6, -1,
            16, 'c', '0', '1', '3', '8', 32, 'b', '1', '3', '4', '6', 'l', '0', '0', '1', '8', -1, 1, -3, -1};
        long h = 17;
        for (int v : values) {
            h = 31 * h + v;
        }
        Check.due("digest()", x.digest(), h);
        Check.due("asked() stays", x.asked(), 8);
        Check.due("digest(), again", x.digest(), h);
    }
}
