/** Promises 1 to 7: a new object, rows. */
public final class RowsTest {
    public static void main(String[] args) {
        newObject();
        row();
        lay();
        at();
        tear();
        copy();
        copyRefused();
        mean();
        Check.end();
    }

    // Promise 1
    private static void newObject() {
        PinDuties x = new PinDuties();
        for (int what = 0; what <= 10; what++) {
            Check.due("new: count(" + what + ")", x.count(what), 0);
        }
        for (int r = 0; r < 6; r++) {
            Check.finds(x, "new: at(" + r + ", 0)", x.at(r, 0), 1);
        }
        for (int t = 0; t < 4; t++) {
            Check.finds(x, "new: fault(" + t + ")", x.fault(t), 1);
        }
        PinDuties other = new PinDuties();
        x.row(0, 1);
        Check.finds(other, "another new one: at(0, 0)", other.at(0, 0), 1);
    }

    // Promise 2
    private static void row() {
        PinDuties x = new PinDuties();
        Check.due("row(0, 3)", x.row(0, 3), 3);
        Check.places(x, 0, 0, 0, 0);
        x.lay(0, 2, 7);
        Check.due("row(0, 4), anew", x.row(0, 4), 4);
        Check.places(x, 0, 0, 0, 0, 0);
        Check.due("row(5, 0)", x.row(5, 0), 0);
        Check.places(x, 5);
        Check.due("row(4, 40)", x.row(4, 40), 40);
        Check.told(x, "at(4, 39)", x.at(4, 39), 0);
        Check.due("row(4, 41)", x.row(4, 41), PinDuties.BAD);
        Check.due("row(-1, 1)", x.row(-1, 1), PinDuties.BAD);
        Check.due("row(6, 1)", x.row(6, 1), PinDuties.BAD);
        Check.due("row(6, -1): BAD first", x.row(6, -1), PinDuties.BAD);
        Check.due("findings(5), none yet", x.findings(5), 0);
        Check.finds(x, "row(3, -1)", x.row(3, -1), 5);
        Check.finds(x, "row(4, least int)", x.row(4, Integer.MIN_VALUE), 5);
        Check.due("row(4, greatest int)", x.row(4, Integer.MAX_VALUE), PinDuties.BAD);
        Check.told(x, "at(4, 39), as it was", x.at(4, 39), 0);
        Check.due("count(6)", x.count(6), 3);
    }

    // Promise 3
    private static void lay() {
        PinDuties x = new PinDuties();
        Check.finds(x, "lay(0, 0, 1), missing", x.lay(0, 0, 1), 1);
        Check.due("lay(6, 0, 1)", x.lay(6, 0, 1), PinDuties.BAD);
        Check.due("lay(-1, 0, 1)", x.lay(-1, 0, 1), PinDuties.BAD);
        x.row(0, 2);
        Check.told(x, "lay(0, 0, 5)", x.lay(0, 0, 5), 0);
        Check.told(x, "lay(0, 0, least int)", x.lay(0, 0, Integer.MIN_VALUE), 5);
        Check.told(x, "lay(0, 0, greatest int)", x.lay(0, 0, Integer.MAX_VALUE), Integer.MIN_VALUE);
        Check.told(x, "lay(0, 1, 9)", x.lay(0, 1, 9), 0);
        Check.finds(x, "lay(0, 2, 1)", x.lay(0, 2, 1), 2);
        Check.finds(x, "lay(0, -1, 1)", x.lay(0, -1, 1), 2);
        Check.places(x, 0, Integer.MAX_VALUE, 9);
    }

    // Promise 4
    private static void at() {
        PinDuties x = new PinDuties();
        Check.finds(x, "at(0, 0), missing", x.at(0, 0), 1);
        Check.due("at(6, 0)", x.at(6, 0), PinDuties.BAD);
        Check.due("at(-1, 0)", x.at(-1, 0), PinDuties.BAD);
        Check.fill(x, 5, 4, -9);
        Check.told(x, "at(5, 0)", x.at(5, 0), 4);
        Check.told(x, "at(5, 1)", x.at(5, 1), -9);
        Check.finds(x, "at(5, 2)", x.at(5, 2), 2);
        Check.finds(x, "at(5, -1)", x.at(5, -1), 2);
        Check.due("asked() stays, if refused", x.asked(), -9);
    }

    // Promise 5
    private static void tear() {
        PinDuties x = new PinDuties();
        Check.finds(x, "tear(5), missing", x.tear(5), 1);
        Check.due("tear(6)", x.tear(6), PinDuties.BAD);
        Check.due("tear(-1)", x.tear(-1), PinDuties.BAD);
        Check.fill(x, 5, 4, 5);
        x.row(4, 1);
        Check.due("tear(5)", x.tear(5), 1);
        Check.finds(x, "at(5, 0), torn", x.at(5, 0), 1);
        Check.finds(x, "tear(5), torn", x.tear(5), 1);
        PinDuties y = new PinDuties();
        y.row(4, 1);
        Check.due("digest(), as if it had never been", x.digest(), y.digest());
        Check.due("count(6)", x.count(6), 1);
        x.row(5, 2);
        Check.places(x, 5, 0, 0);
    }

    // Promise 6
    private static void copy() {
        PinDuties x = new PinDuties();
        Check.fill(x, 0, 1, 2, 3, 4, 5);
        Check.fill(x, 1, 9, 8, 7);
        Check.due("copy(0, 1, 1, 0, 2)", x.copy(0, 1, 1, 0, 2), 1);
        Check.places(x, 1, 2, 3, 7);
        Check.due("copy up in itself", x.copy(0, 0, 0, 1, 4), 1);
        Check.places(x, 0, 1, 1, 2, 3, 4);
        Check.due("copy down in itself", x.copy(0, 2, 0, 0, 3), 1);
        Check.places(x, 0, 2, 3, 4, 3, 4);
        Check.due("copy all", x.copy(0, 0, 0, 0, 5), 1);
        Check.due("copy none, at the ends", x.copy(0, 5, 1, 3, 0), 1);
        Check.places(x, 0, 2, 3, 4, 3, 4);
        Check.places(x, 1, 2, 3, 7);
        x.row(2, 0);
        Check.due("copy none of none", x.copy(2, 0, 2, 0, 0), 1);
    }

    private static void copyRefused() {
        PinDuties x = new PinDuties();
        Check.fill(x, 0, 1, 2, 3);
        Check.fill(x, 1, 4, 5);
        Check.due("copy: BAD ahead of SIZE", x.copy(6, 0, 0, 0, -1), PinDuties.BAD);
        Check.due("copy: BAD ahead of SIZE, to", x.copy(0, 0, -1, 0, -1), PinDuties.BAD);
        Check.due("finding(), none yet", x.finding(), 0);
        Check.finds(x, "copy: SIZE ahead of NOTHING", x.copy(5, 0, 5, 0, -1), 5);
        Check.finds(x, "copy: NOTHING ahead of BEYOND", x.copy(5, 9, 0, 9, 9), 1);
        Check.finds(x, "copy: NOTHING, to", x.copy(0, 9, 5, 9, 9), 1);
        Check.finds(x, "copy: too many of it", x.copy(0, 2, 1, 0, 2), 2);
        Check.finds(x, "copy: too many for it", x.copy(0, 0, 1, 0, 3), 2);
        Check.finds(x, "copy: too many for it, from 1 on", x.copy(0, 0, 1, 1, 2), 2);
        Check.finds(x, "copy: i below 0", x.copy(0, -1, 1, 0, 0), 2);
        Check.finds(x, "copy: j below 0", x.copy(0, 0, 1, -1, 0), 2);
        Check.finds(x, "copy: i above its size", x.copy(0, 4, 1, 0, 0), 2);
        Check.finds(x, "copy: j above its size", x.copy(0, 0, 1, 3, 0), 2);
        Check.finds(x, "copy: n the greatest int", x.copy(0, 1, 1, 1, Integer.MAX_VALUE), 2);
        Check.finds(x, "copy: i the greatest int", x.copy(0, Integer.MAX_VALUE, 1, 0, 1), 2);
        Check.finds(x, "copy: j the least int", x.copy(0, 0, 1, Integer.MIN_VALUE, 1), 2);
        Check.places(x, 0, 1, 2, 3);
        Check.places(x, 1, 4, 5);
    }

    // Promise 7
    private static void mean() {
        PinDuties x = new PinDuties();
        Check.due("mean(6)", x.mean(6), PinDuties.BAD);
        Check.due("mean(-1)", x.mean(-1), PinDuties.BAD);
        Check.finds(x, "mean(0), missing", x.mean(0), 1);
        x.row(0, 0);
        Check.finds(x, "mean(0), of none", x.mean(0), 4);
        Check.fill(x, 0, 1, 2, 4);
        Check.told(x, "mean(0), cut", x.mean(0), 2);
        Check.fill(x, 0, -1, -2);
        Check.told(x, "mean(0), cut below 0", x.mean(0), -1);
        Check.fill(x, 0, 7);
        Check.told(x, "mean(0), of one", x.mean(0), 7);
        Check.fill(x, 0, Integer.MAX_VALUE, Integer.MAX_VALUE, Integer.MAX_VALUE);
        Check.told(x, "mean(0), of great ones", x.mean(0), Integer.MAX_VALUE);
        Check.fill(x, 0, Integer.MIN_VALUE, Integer.MIN_VALUE);
        Check.told(x, "mean(0), of least ones", x.mean(0), Integer.MIN_VALUE);
        Check.due("upper(), not told by mean()", x.upper(), 0);
        Check.due("lower(), not told by mean()", x.lower(), 1);
    }
}
