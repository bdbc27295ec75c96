/** What the tests share: an answer held against the one that is due, and streets typed in. */
class Check {
    private static int made = 0;
    private static int wrong = 0;

    Check() {
    }

    static void due(String call, long got, long want) {
        made++;
        if (got != want) {
            wrong++;
            System.out.println(call + " answered " + got + ", due is " + want);
        }
    }

    /** A call that answers 1 and tells by asked(). */
    static void told(PinDuties x, String call, int got, int want) {
        due(call, got, 1);
        due(call + ", then asked()", x.asked(), want);
    }

    /** A call that answers itself and tells more by asked(). */
    static void both(PinDuties x, String call, int got, int want, int asked) {
        due(call, got, want);
        due(call + ", then asked()", x.asked(), asked);
    }

    /** A call that is refused by a finding. */
    static void finds(PinDuties x, String call, int got, int finding) {
        due(call, got, PinDuties.FINDING);
        due(call + ", then finding()", x.finding(), finding);
    }

    /** A call that tells by upper() and lower(). */
    static void chance(PinDuties x, String call, int got, long upper, long lower) {
        due(call, got, 1);
        due(call + ", then upper()", x.upper(), upper);
        due(call + ", then lower()", x.lower(), lower);
    }

    static void type(PinDuties x, int t, String signs) {
        x.text(t, signs.length());
        for (int i = 0; i < signs.length(); i++) {
            x.put(t, i, signs.charAt(i));
        }
    }

    static void fill(PinDuties x, int r, int... values) {
        x.row(r, values.length);
        for (int i = 0; i < values.length; i++) {
            x.lay(r, i, values[i]);
        }
    }

    static PinDuties street(String signs) {
        PinDuties x = new PinDuties();
        type(x, 0, signs);
        x.street(0);
        return x;
    }

    static void places(PinDuties x, int r, int... values) {
        for (int i = 0; i < values.length; i++) {
            told(x, "at(" + r + ", " + i + ")", x.at(r, i), values[i]);
        }
        finds(x, "at(" + r + ", " + values.length + ")", x.at(r, values.length), 2);
    }

    static int made() {
        return made;
    }

    static void end() {
        System.out.println(made + " answers, " + wrong + " wrong");
        if (wrong != 0 || made == 0) {
            System.exit(1);
        }
    }
}
