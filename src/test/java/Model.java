import java.math.BigInteger;
import java.util.ArrayDeque;
import java.util.ArrayList;
import java.util.Arrays;
import java.util.Collections;
import java.util.HashMap;
import java.util.List;
import java.util.Map;
import java.util.TreeMap;
import java.util.TreeSet;

/**
 * The document once more, slowly: every answer by trying all there is, in another way than the
 * class under test goes. ModelTest holds the two against each other.
 */
final class Model {
    static final int BAD = -1, FULL = -2, FINDING = -3, STATE = -4, NONE = -9;

    record Pin(char letter, int place, int hour, int length, int luck) {
        TreeSet<Integer> hours() {
            TreeSet<Integer> all = new TreeSet<>();
            for (int h = hour; h < hour + length; h++) {
                all.add(h);
            }
            return all;
        }

        boolean clashes(Pin other) {
            return !Collections.disjoint(hours(), other.hours());
        }

        int worth() {
            return switch (letter) {
                case 'p' -> luck;
                case 'c' -> luck - 10;
                case 'l' -> hours().contains(5) ? luck + 3 : luck;
                case 'm' -> luck * length;
                case 'b' -> as('l').worth() * 2;
                default -> as('c').worth() - length;
            };
        }

        Pin as(char other) {
            return new Pin(other, place, hour, length, luck);
        }

        Pin lucky(int other) {
            return new Pin(letter, place, hour, length, other);
        }

        boolean is(char other) {
            return letter == other || other == 'p' || letter == 'b' && other == 'l' || letter == 'w' && other == 'c';
        }
    }

    /** The street at one time; where: a place, or -1 held, -2 swept. */
    record State(int here, List<Integer> where) {
        State with(int k, int at) {
            List<Integer> next = new ArrayList<>(where);
            next.set(k, at);
            return new State(here, next);
        }

        int bits(int at) {
            int bits = 0;
            for (int k = 0; k < where.size(); k++) {
                boolean fits = at >= 0 ? where.get(k) >= 0 : where.get(k) == at;
                bits |= fits ? 1 << k : 0;
            }
            return bits;
        }
    }

    static final String LETTERS = "pclmbw";
    final Map<Integer, List<Integer>> rows = new TreeMap<>();
    final Map<Integer, List<Integer>> texts = new TreeMap<>();
    final Map<Integer, List<State>> kept = new TreeMap<>();
    List<Pin> pins = new ArrayList<>();
    List<State> days = new ArrayList<>(List.of(new State(0, List.of())));
    int told = 0;
    BigInteger up = BigInteger.ZERO;
    BigInteger low = BigInteger.ONE;
    final List<Integer> findings = new ArrayList<>();

    private int find(int f) {
        findings.add(f);
        return FINDING;
    }

    private int tell(int v) {
        told = v;
        return 1;
    }

    private State now() {
        return days.get(days.size() - 1);
    }

    private int made(Map<Integer, List<Integer>> all, int limit, int r, int n, int most, int v) {
        if (r < 0 || r >= limit || n > most) {
            return BAD;
        }
        if (n < 0) {
            return find(5);
        }
        all.put(r, new ArrayList<>(Collections.nCopies(n, v)));
        return n;
    }

    int row(int r, int n) {
        return made(rows, 6, r, n, 40, 0);
    }

    int lay(int r, int i, int v) {
        int answer = at(r, i);
        if (answer == 1) {
            rows.get(r).set(i, v);
        }
        return answer;
    }

    int at(int r, int i) {
        if (r < 0 || r > 5) {
            return BAD;
        }
        if (!rows.containsKey(r)) {
            return find(1);
        }
        if (i < 0 || i >= rows.get(r).size()) {
            return find(2);
        }
        return tell(rows.get(r).get(i));
    }

    int tear(int r) {
        if (r < 0 || r > 5) {
            return BAD;
        }
        return rows.remove(r) == null ? find(1) : 1;
    }

    int copy(int r, int i, int to, int j, int n) {
        if (r < 0 || r > 5 || to < 0 || to > 5) {
            return BAD;
        }
        if (n < 0) {
            return find(5);
        }
        List<Integer> from = rows.get(r);
        List<Integer> into = rows.get(to);
        if (from == null || into == null) {
            return find(1);
        }
        if (i < 0 || j < 0 || (long) i + n > from.size() || (long) j + n > into.size()) {
            return find(2);
        }
        List<Integer> taken = new ArrayList<>(from.subList(i, i + n));
        for (int q = 0; q < n; q++) {
            into.set(j + q, taken.get(q));
        }
        return 1;
    }

    int mean(int r) {
        if (r < 0 || r > 5) {
            return BAD;
        }
        if (!rows.containsKey(r)) {
            return find(1);
        }
        if (rows.get(r).isEmpty()) {
            return find(4);
        }
        BigInteger sum = BigInteger.ZERO;
        for (int v : rows.get(r)) {
            sum = sum.add(BigInteger.valueOf(v));
        }
        return tell(sum.divide(BigInteger.valueOf(rows.get(r).size())).intValueExact());
    }

    int text(int t, int n) {
        return made(texts, 4, t, n, 60, 32);
    }

    int put(int t, int i, int v) {
        if (t < 0 || t > 3) {
            return BAD;
        }
        if (!texts.containsKey(t)) {
            return find(1);
        }
        if (i < 0 || i >= texts.get(t).size()) {
            return find(2);
        }
        return 1000 + texts.get(t).set(i, (int) (byte) v);
    }

    int fault(int t) {
        if (t < 0 || t > 3) {
            return BAD;
        }
        if (!texts.containsKey(t)) {
            return find(1);
        }
        return parse(texts.get(t), new ArrayList<>());
    }

    // The sign that stands at i, as a char; a bell, where none stands.
    private static char sign(List<Integer> text, int i) {
        return i < text.size() && text.get(i) > 0 ? (char) (int) text.get(i) : 7;
    }

    private static int parse(List<Integer> text, List<Pin> into) {
        int i = 0;
        while (true) {
            while (sign(text, i) == ' ') {
                i++;
            }
            if (i == text.size()) {
                return into.isEmpty() ? i : NONE;
            }
            if (into.size() == 8 || LETTERS.indexOf(sign(text, i)) < 0) {
                return i;
            }
            String[] allowed = {LETTERS, "0123456789", "0123456789", "1234", "0123456789"};
            int[] figures = new int[5];
            for (int part = 0; part < 5; part++) {
                if (allowed[part].indexOf(sign(text, i + part)) < 0) {
                    return i + part;
                }
                figures[part] = sign(text, i + part) - '0';
            }
            into.add(new Pin(sign(text, i), figures[1], figures[2], figures[3], figures[4]));
            i += 5;
        }
    }

    int street(int t) {
        if (t < 0 || t > 3) {
            return BAD;
        }
        if (!texts.containsKey(t)) {
            return find(1);
        }
        List<Pin> read = new ArrayList<>();
        if (parse(texts.get(t), read) != NONE) {
            return STATE;
        }
        pins = read;
        kept.clear();
        List<Integer> where = new ArrayList<>();
        for (Pin p : pins) {
            where.add(p.place());
        }
        days = new ArrayList<>(List.of(new State(0, where)));
        return pins.size();
    }

    /** Where a pin is: a place, or -1 held, -2 swept. */
    int where(int k) {
        return now().where().get(k);
    }

    private boolean none(int k) {
        return k < 0 || k >= pins.size();
    }

    private int tells(int k, int what) {
        Pin p = pins.get(k);
        int at = now().where().get(k);
        int hours = 0;
        for (int h : p.hours()) {
            hours += 1 << h;
        }
        int[] all = {LETTERS.indexOf(p.letter()), at >= 0 ? at : NONE, hours, p.length(), p.luck(), p.worth(),
            at == -1 ? 1 : 0, at == -2 ? 1 : 0};
        return all[what];
    }

    int pin(int k, int what) {
        return none(k) || what < 0 || what > 7 ? BAD : tell(tells(k, what));
    }

    int mark(int k, int kind) {
        if (none(k) || kind < 1 || kind > 5) {
            return BAD;
        }
        Pin p = pins.get(k);
        if (!p.is(LETTERS.charAt(kind))) {
            return find(3);
        }
        // What it is held against; a COLD one against nothing.
        char alike = "  pplc".charAt(kind);
        return 100 + p.worth() - (kind == 1 ? 0 : p.as(alike).worth());
    }

    int worth(int k, int luck) {
        return none(k) || luck < 0 || luck > 9 ? BAD : tell(pins.get(k).lucky(luck).worth());
    }

    private int done(State next) {
        if (days.size() > 40) {
            return FULL;
        }
        days.add(next);
        return 1;
    }

    int step(int s) {
        if (s != 1 && s != -1) {
            return BAD;
        }
        int to = now().here() + s;
        if (pins.isEmpty() || to < 0 || to > 9) {
            return STATE;
        }
        return done(new State(to, now().where())) == FULL ? FULL : to;
    }

    int pick(int k) {
        if (none(k)) {
            return BAD;
        }
        if (now().where().get(k) != now().here()) {
            return STATE;
        }
        return done(now().with(k, -1)) == FULL ? FULL : Collections.frequency(now().where(), -1);
    }

    int drop(int k) {
        if (none(k)) {
            return BAD;
        }
        if (now().where().get(k) != -1) {
            return STATE;
        }
        return done(now().with(k, now().here())) == FULL ? FULL : Collections.frequency(now().where(), -1);
    }

    int sweep() {
        if (pins.isEmpty()) {
            return STATE;
        }
        int gone = Collections.frequency(now().where(), now().here());
        List<Integer> next = new ArrayList<>(now().where());
        Collections.replaceAll(next, now().here(), -2);
        return done(new State(now().here(), next)) == FULL ? FULL : gone;
    }

    int undo(int n) {
        int deeds = days.size() - 1;
        if (n < 0 || n > deeds) {
            return BAD;
        }
        days = new ArrayList<>(days.subList(0, n + 1));
        return deeds - n;
    }

    int keep(int k) {
        if (k < 0 || k > 2) {
            return BAD;
        }
        if (pins.isEmpty()) {
            return STATE;
        }
        kept.put(k, new ArrayList<>(days));
        return days.size() - 1;
    }

    int on(int k) {
        if (k < 0 || k > 2) {
            return BAD;
        }
        if (!kept.containsKey(k)) {
            return find(1);
        }
        days = new ArrayList<>(kept.get(k));
        return days.size() - 1;
    }

    private List<Pin> those(int set) {
        List<Pin> list = new ArrayList<>();
        for (int k = 0; k < pins.size(); k++) {
            if ((set & 1 << k) != 0) {
                list.add(pins.get(k));
            }
        }
        return list;
    }

    private static int pairs(List<Pin> list) {
        int pairs = 0;
        for (int a = 0; a < list.size(); a++) {
            for (int b = a + 1; b < list.size(); b++) {
                pairs += list.get(a).clashes(list.get(b)) ? 1 : 0;
            }
        }
        return pairs;
    }

    private static int sum(List<Pin> list) {
        return list.stream().mapToInt(Pin::worth).sum();
    }

    int busy() {
        int[] often = new int[13];
        for (Pin p : those(now().bits(-1))) {
            for (int h : p.hours()) {
                often[h]++;
            }
        }
        int once = 0;
        int twice = 0;
        for (int h = 0; h < 13; h++) {
            once |= often[h] > 0 ? 1 << h : 0;
            twice |= often[h] > 1 ? 1 << h : 0;
        }
        told = twice;
        return once;
    }

    int clashes() {
        List<Pin> held = those(now().bits(-1));
        told = sum(held);
        return pairs(held);
    }

    int least() {
        int held = now().bits(-1);
        for (int many = 0; many <= 8; many++) {
            for (int set = 0; set < 256; set++) {
                boolean fits = (set | held) == held && Integer.bitCount(set) == many;
                if (fits && pairs(those(held - set)) == 0) {
                    told = set;
                    return many;
                }
            }
        }
        return 0;
    }

    /** Of what is there: the most worth, and the least number of what is worth it. */
    private int[] bestAmong(int there) {
        int[] top = {0, 0};
        for (int set = 0; set <= there; set++) {
            if ((set | there) == there && sum(those(set)) > top[0] && pairs(those(set)) == 0) {
                top = new int[] {sum(those(set)), set};
            }
        }
        return top;
    }

    int best(int r) {
        if (r < 0 || r > 5) {
            return BAD;
        }
        if (pins.isEmpty()) {
            return STATE;
        }
        int[] top = bestAmong(now().bits(-1) | now().bits(0));
        List<Integer> order = new ArrayList<>();
        for (int k = 0; k < pins.size(); k++) {
            if ((top[1] & 1 << k) != 0) {
                order.add(k);
            }
        }
        order.sort((a, b) -> Integer.compare(pins.get(a).hour(), pins.get(b).hour()));
        rows.put(r, order);
        told = top[1];
        return top[0];
    }

    /** How many steps it takes at least to have been at the places of just a set, by place at last. */
    private int[] stepsTo(int set) {
        List<Integer> goals = new ArrayList<>();
        for (int k = 0; k < pins.size(); k++) {
            if ((set & 1 << k) != 0) {
                goals.add(now().where().get(k));
            }
        }
        int all = 0;
        for (int g : goals) {
            all |= 1 << g;
        }
        Map<Integer, Integer> far = new HashMap<>();
        ArrayDeque<Integer> queue = new ArrayDeque<>();
        int start = now().here() * 1024 + (1 << now().here() & all);
        far.put(start, 0);
        queue.add(start);
        int[] answer = {-1, -1};
        while (!queue.isEmpty()) {
            int at = queue.poll();
            int place = at / 1024;
            int seen = at % 1024;
            if (answer[0] >= 0 && far.get(at) > answer[0]) {
                return answer;
            }
            if (seen == all && (answer[0] < 0 || place < answer[1])) {
                answer = new int[] {far.get(at), place};
            }
            for (int next = place - 1; next <= place + 1; next += 2) {
                int then = next * 1024 + (next < 0 || next > 9 ? 0 : seen | 1 << next & all);
                if (next >= 0 && next <= 9 && far.putIfAbsent(then, far.get(at) + 1) == null) {
                    queue.add(then);
                }
            }
        }
        return answer;
    }

    int walk(int set) {
        if (set < 0 || set >= 1 << pins.size()) {
            return BAD;
        }
        if ((set & now().bits(0)) != set) {
            return STATE;
        }
        int[] way = stepsTo(set);
        told = way[1];
        return way[0];
    }

    int within(int n) {
        if (n < 0 || n > 20) {
            return BAD;
        }
        if (pins.isEmpty()) {
            return STATE;
        }
        List<Pin> held = those(now().bits(-1));
        int top = 0;
        int which = 0;
        for (int set = 1; set < 256; set++) {
            List<Pin> list = those(set);
            boolean fits = (set & now().bits(0)) == set && sum(list) > top && pairs(list) == 0;
            for (Pin p : list) {
                for (Pin h : held) {
                    fits &= !p.clashes(h);
                }
            }
            if (fits && stepsTo(set)[0] <= n) {
                top = sum(list);
                which = set;
            }
        }
        told = which;
        return top;
    }

    int whose(int r) {
        if (r < 0 || r > 5) {
            return BAD;
        }
        if (pins.isEmpty()) {
            return STATE;
        }
        if (!rows.containsKey(r)) {
            return find(1);
        }
        List<Integer> row = rows.get(r);
        if (row.size() != 13) {
            return find(5);
        }
        if (!List.of(1, 0, -9).containsAll(row)) {
            return find(3);
        }
        List<Integer> sets = new ArrayList<>();
        for (int set = 0; set < 1 << pins.size(); set++) {
            boolean fits = (set & now().bits(-2)) == 0;
            for (int h = 0; fits && h < 13; h++) {
                final int hour = h;
                boolean busy = those(set).stream().anyMatch(p -> p.hours().contains(hour));
                fits = row.get(h) == -9 || row.get(h) == (busy ? 1 : 0);
            }
            if (fits) {
                sets.add(set);
            }
        }
        if (sets.isEmpty()) {
            return NONE;
        }
        told = sets.get(0);
        return sets.size();
    }

    private int refusePairs(int k, int r) {
        if (none(k) || r < 0 || r > 5) {
            return BAD;
        }
        if (!rows.containsKey(r)) {
            return find(1);
        }
        List<Integer> row = rows.get(r);
        if (row.size() % 2 == 1) {
            return find(5);
        }
        for (int i = 0; i < row.size(); i++) {
            int low = i % 2 == 0 ? 0 : -20;
            int high = i % 2 == 0 ? 9 : 60;
            if (row.get(i) < low || row.get(i) > high) {
                return find(3);
            }
        }
        return 0;
    }

    private List<Character> possible(int k, int r) {
        List<Character> list = new ArrayList<>();
        for (char c : LETTERS.toCharArray()) {
            boolean fits = true;
            for (int i = 0; i < rows.get(r).size(); i += 2) {
                fits &= pins.get(k).as(c).lucky(rows.get(r).get(i)).worth() == rows.get(r).get(i + 1);
            }
            if (fits) {
                list.add(c);
            }
        }
        return list;
    }

    int kinds(int k, int r) {
        int refused = refusePairs(k, r);
        if (refused != 0) {
            return refused;
        }
        int bits = 0;
        for (char c : possible(k, r)) {
            bits += 1 << LETTERS.indexOf(c);
        }
        return bits;
    }

    int test(int k, int r) {
        int refused = refusePairs(k, r);
        if (refused != 0) {
            return refused;
        }
        if (possible(k, r).isEmpty()) {
            return NONE;
        }
        int[] parts = new int[10];
        for (int luck = 0; luck < 10; luck++) {
            Map<Integer, Integer> alike = new HashMap<>();
            for (char c : possible(k, r)) {
                alike.merge(pins.get(k).as(c).lucky(luck).worth(), 1, Integer::sum);
            }
            parts[luck] = Collections.max(alike.values());
        }
        told = Arrays.stream(parts).min().getAsInt();
        for (int luck = 0; luck < 10; luck++) {
            if (parts[luck] == told) {
                return luck;
            }
        }
        return 0;
    }

    int lucks(int k, int v) {
        if (none(k) || v < -20 || v > 60) {
            return BAD;
        }
        int bits = 0;
        for (int luck = 0; luck < 10; luck++) {
            bits += pins.get(k).lucky(luck).worth() == v ? 1 << luck : 0;
        }
        return bits;
    }

    int duel(int n) {
        if (n < 0 || n > 4) {
            return BAD;
        }
        if (pins.isEmpty()) {
            return STATE;
        }
        return 500 + played(n, 0, 0, 0);
    }

    // What the first one's are worth less the second one's; even turns are the first one's.
    private int played(int n, int turn, int first, int second) {
        if (turn == n) {
            return sum(those(first)) - sum(those(second));
        }
        boolean firsts = turn % 2 == 0;
        int end = played(n, turn + 1, first, second);
        for (int k = 0; k < pins.size(); k++) {
            int own = (firsts ? first : second) | 1 << k;
            boolean lies = now().where().get(k) >= 0 && ((first | second) & 1 << k) == 0;
            if (lies && pairs(those(own)) == 0) {
                int then = firsts ? played(n, turn + 1, own, second) : played(n, turn + 1, first, own);
                end = firsts ? Math.max(end, then) : Math.min(end, then);
            }
        }
        return end;
    }

    private int tellFraction(BigInteger over, BigInteger under) {
        BigInteger by = over.gcd(under);
        up = over.divide(by);
        low = under.divide(by);
        return 1;
    }

    // Of every set that may be left: how often of 12 by 12 .. it is.
    private Map<Integer, BigInteger> leftBy(int p) {
        Map<Integer, BigInteger> chances = new HashMap<>();
        chances.put(0, BigInteger.ONE);
        for (int k = 0; k < pins.size(); k++) {
            if (now().where().get(k) >= 0) {
                Map<Integer, BigInteger> next = new HashMap<>();
                for (Map.Entry<Integer, BigInteger> e : chances.entrySet()) {
                    next.merge(e.getKey(), e.getValue().multiply(BigInteger.valueOf(p)), BigInteger::add);
                    next.merge(e.getKey() | 1 << k, e.getValue().multiply(BigInteger.valueOf(12 - p)), BigInteger::add);
                }
                chances = next;
            }
        }
        return chances;
    }

    int odds(int v, int p) {
        if (v < 0 || v > 200 || p < 0 || p > 12) {
            return BAD;
        }
        if (pins.isEmpty()) {
            return STATE;
        }
        BigInteger sum = BigInteger.ZERO;
        BigInteger all = BigInteger.ZERO;
        for (Map.Entry<Integer, BigInteger> e : leftBy(p).entrySet()) {
            all = all.add(e.getValue());
            if (bestAmong(e.getKey() | now().bits(-1))[0] >= v) {
                sum = sum.add(e.getValue());
            }
        }
        return tellFraction(sum, all);
    }

    int mid(int p) {
        if (p < 0 || p > 12) {
            return BAD;
        }
        if (pins.isEmpty()) {
            return STATE;
        }
        BigInteger sum = BigInteger.ZERO;
        BigInteger all = BigInteger.ZERO;
        for (Map.Entry<Integer, BigInteger> e : leftBy(p).entrySet()) {
            all = all.add(e.getValue());
            long best = bestAmong(e.getKey() | now().bits(-1))[0];
            sum = sum.add(e.getValue().multiply(BigInteger.valueOf(best)));
        }
        return tellFraction(sum, all);
    }

    int lots(int n, int seed) {
        if (n < 1 || n > 20 || seed < 1 || seed > 2147483646) {
            return BAD;
        }
        if (pins.isEmpty()) {
            return STATE;
        }
        if (days.size() - 1 + n > 40) {
            return FULL;
        }
        BigInteger number = BigInteger.valueOf(seed);
        for (int i = 0; i < n; i++) {
            number = number.multiply(BigInteger.valueOf(48271)).mod(BigInteger.valueOf(2147483647));
            int k = number.shiftRight(3).mod(BigInteger.valueOf(pins.size())).intValue();
            if (drop(k) == STATE && pick(k) == STATE) {
                int s = number.testBit(0) ? -1 : 1;
                if (step(s) == STATE) {
                    step(-s);
                }
            }
        }
        return now().here();
    }

    int asked() {
        return told;
    }

    long upper() {
        return up.longValueExact();
    }

    long lower() {
        return low.longValueExact();
    }

    int count(int what) {
        if (what < 0 || what > 10) {
            return BAD;
        }
        int colds = (int) pins.stream().filter(p -> p.is('c')).count();
        int lunches = (int) pins.stream().filter(p -> p.is('l')).count();
        int[] all = {pins.size(), now().here(), days.size() - 1, now().bits(-1), now().bits(0), now().bits(-2),
            rows.size(), texts.size(), kept.size(), colds, lunches};
        return all[what];
    }

    int finding() {
        return findings.isEmpty() ? 0 : findings.get(findings.size() - 1);
    }

    int findings(int f) {
        return f < 1 || f > 5 ? BAD : Collections.frequency(findings, f);
    }

    long digest() {
        List<Integer> values = new ArrayList<>();
        for (int what = 0; what <= 10; what++) {
            values.add(count(what));
        }
        for (int k = 0; k < pins.size(); k++) {
            for (int what = 0; what <= 7; what++) {
                values.add(tells(k, what));
            }
        }
        for (int k = 0; k <= 2; k++) {
            values.add(kept.containsKey(k) ? kept.get(k).size() - 1 : -1);
        }
        for (int r = 0; r <= 5; r++) {
            values.add(rows.containsKey(r) ? rows.get(r).size() : -1);
            values.addAll(rows.getOrDefault(r, List.of()));
        }
        for (int t = 0; t <= 3; t++) {
            values.add(texts.containsKey(t) ? texts.get(t).size() : -1);
            values.addAll(texts.getOrDefault(t, List.of()));
        }
        long h = 17;
        for (int v : values) {
            h = 31 * h + v;
        }
        return h;
    }
}
