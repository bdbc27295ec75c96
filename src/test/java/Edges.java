import java.io.IOException;
import java.nio.file.Files;
import java.nio.file.Path;
import java.util.ArrayList;
import java.util.BitSet;
import java.util.LinkedHashMap;
import java.util.List;
import java.util.Map;
import java.util.function.Supplier;
import java.util.function.ToLongFunction;

/**
 * What the tests of the document's edges share. Each of them quotes the sentence (or the part of one) that it
 * holds; the quotes must stand in that section of the document, and all of them together leave nothing of it out.
 */
abstract class Edges extends Check {
    private static final Path DOC = Path.of("../shared/DOC.md");
    private static final Map<String, String> SECTIONS = new LinkedHashMap<>();
    private static final Map<String, BitSet> QUOTED = new LinkedHashMap<>();
    private static String section = "";
    private static int sentences = 0;

    // ---- sentences and the document

    /** Reads what the document says; without it the tests are run all the same. */
    static void readDocument() throws IOException {
        if (!Files.exists(DOC)) {
            System.out.println(DOC + " is not there: quotes are not looked up");
            return;
        }
        String heading = "";
        StringBuilder text = new StringBuilder();
        for (String line : Files.readAllLines(DOC)) {
            if (line.startsWith("## ")) {
                keepSection(heading, text);
                heading = line.substring(3).replaceAll(":.*", "");
                text.setLength(0);
            } else if (!line.startsWith("```") && !line.startsWith("Ahead of the calls")) {
                text.append(line).append('\n');
            }
        }
        keepSection(heading, text);
    }

    private static void keepSection(String heading, StringBuilder text) {
        if (heading.equals("Terms") || heading.startsWith("Promise ")) {
            // The face of a call, told ahead in backquotes, is FaceTest's.
            SECTIONS.put(heading, plain(text.toString().replaceAll("`[^`]*`:", "")));
            QUOTED.put(heading, new BitSet());
        }
    }

    private static String plain(String text) {
        return text.replaceAll("\\s+", " ").trim();
    }

    static void section(String heading) {
        section = heading;
        if (!SECTIONS.isEmpty()) {
            due("the document has a section " + heading + " (1: yes)", SECTIONS.containsKey(heading) ? 1 : 0, 1);
        }
    }

    static void promise(int number) {
        section("Promise " + number);
    }

    /** Runs a test of what is quoted; one that holds nothing is wrong, too. */
    static void sentence(String quote, Runnable test) {
        sentences++;
        markQuoted(plain(quote));
        int ahead = made();
        try {
            test.run();
        } catch (RuntimeException | Error e) {
            due(section + ", " + quote + ": it threw " + e + " (0: no)", 1, 0);
        }
        if (made() == ahead) {
            due(section + ", " + quote + ": answers that the test holds (0: none)", 0, 1);
        }
    }

    private static void markQuoted(String quote) {
        String text = SECTIONS.get(section);
        if (text == null) {
            return;
        }
        int at = text.indexOf(quote);
        due(section + " says: " + quote + " (1: yes)", at >= 0 ? 1 : 0, 1);
        while (at >= 0) {
            QUOTED.get(section).set(at, at + quote.length());
            at = text.indexOf(quote, at + 1);
        }
    }

    /** Every word of every section must have been quoted by a test. */
    static void endSentences() {
        for (Map.Entry<String, String> e : SECTIONS.entrySet()) {
            BitSet quoted = QUOTED.get(e.getKey());
            StringBuilder left = new StringBuilder();
            for (int i = 0; i < e.getValue().length(); i++) {
                left.append(quoted.get(i) ? ' ' : e.getValue().charAt(i));
            }
            String words = plain(left.toString());
            due(e.getKey() + ", words that no test quotes: " + words, words.length(), 0);
        }
        System.out.println(sentences + " sentences or parts of one");
    }

    // ---- calls that are refused

    static void bad(String call, Supplier<PinDuties> state, ToLongFunction<PinDuties> f) {
        refused(call, state, f, PinDuties.BAD, 0);
    }

    static void full(String call, Supplier<PinDuties> state, ToLongFunction<PinDuties> f) {
        refused(call, state, f, PinDuties.FULL, 0);
    }

    static void notNow(String call, Supplier<PinDuties> state, ToLongFunction<PinDuties> f) {
        refused(call, state, f, PinDuties.STATE, 0);
    }

    /** NONE is no refusal, but leaves all as it was, too. */
    static void none(String call, Supplier<PinDuties> state, ToLongFunction<PinDuties> f) {
        refused(call, state, f, PinDuties.NONE, 0);
    }

    static void nothing(String call, Supplier<PinDuties> state, ToLongFunction<PinDuties> f) {
        refused(call, state, f, PinDuties.FINDING, 1);
    }

    static void beyond(String call, Supplier<PinDuties> state, ToLongFunction<PinDuties> f) {
        refused(call, state, f, PinDuties.FINDING, 2);
    }

    static void unlike(String call, Supplier<PinDuties> state, ToLongFunction<PinDuties> f) {
        refused(call, state, f, PinDuties.FINDING, 3);
    }

    static void nought(String call, Supplier<PinDuties> state, ToLongFunction<PinDuties> f) {
        refused(call, state, f, PinDuties.FINDING, 4);
    }

    static void size(String call, Supplier<PinDuties> state, ToLongFunction<PinDuties> f) {
        refused(call, state, f, PinDuties.FINDING, 5);
    }

    /** Held against an object in the same state that was not called so. */
    private static void refused(String call, Supplier<PinDuties> state, ToLongFunction<PinDuties> f, int want,
            int finding) {
        PinDuties x = state.get();
        PinDuties y = state.get();
        due(call, f.applyAsLong(x), want);
        due(call + ", then finding()", x.finding(), finding == 0 ? y.finding() : finding);
        for (int i = 1; i <= 5; i++) {
            due(call + ", then findings(" + i + ")", x.findings(i), y.findings(i) + (i == finding ? 1 : 0));
        }
        due(call + ", then asked()", x.asked(), y.asked());
        due(call + ", then upper()", x.upper(), y.upper());
        due(call + ", then lower()", x.lower(), y.lower());
        same(call, x, y);
    }

    /** A call that tells, but changes nothing of what is there. */
    static void aside(String call, Supplier<PinDuties> state, ToLongFunction<PinDuties> f) {
        PinDuties x = state.get();
        PinDuties y = state.get();
        due(call + ", not refused (1: so)", f.applyAsLong(x) >= 0 ? 1 : 0, 1);
        due(call + ", then finding()", x.finding(), y.finding());
        same(call, x, y);
    }

    /** Whether two objects are alike: now, in what they have done, and in what they have kept. */
    static void same(String call, PinDuties x, PinDuties y) {
        List<Long> of = storyOf(x);
        List<Long> other = storyOf(y);
        due(call + ", then how much there is to tell", of.size(), other.size());
        for (int i = 0; i < of.size() && i < other.size(); i++) {
            due(call + ", then " + i + " of the digests and deeds", of.get(i), other.get(i));
        }
    }

    private static List<Long> storyOf(PinDuties x) {
        List<Long> story = new ArrayList<>();
        story.add(x.digest());
        takeBack(x, story);
        for (int k = 0; k < 3; k++) {
            story.add((long) x.on(k));
            story.add(x.digest());
            takeBack(x, story);
        }
        return story;
    }

    // Few enough calls for an object that is used for 512.
    private static void takeBack(PinDuties x, List<Long> story) {
        int by = 1 + x.count(2) / 12;
        for (int n = x.count(2) - by; n >= 0; n -= by) {
            story.add((long) x.undo(n));
            story.add(x.digest());
        }
    }

    // ---- states

    /** Something of everything: held 2, swept 3; pin 0 was dropped in 2, 1 lies in 0, 4 and 5 lie here, in 3. */
    static PinDuties rich() {
        PinDuties x = street("p0138c0214l1425m2637b3346w3522");
        x.pick(0);
        x.step(1);
        x.pick(2);
        x.step(1);
        x.drop(0);
        x.pick(0);
        x.keep(0);
        x.undo(5);
        x.pick(0);
        x.sweep();
        x.drop(0);
        x.step(1);
        x.keep(2);
        rowsAndTexts(x);
        return x;
    }

    // Row 0 of three, 1 of none, 2 of forty, 3 of hours, 4 of a pair, 5 missing; text 1 of none, 2 of sixty, 3 missing.
    private static void rowsAndTexts(PinDuties x) {
        fill(x, 0, 5, -7, 9);
        x.row(1, 0);
        x.row(2, 40);
        x.lay(2, 39, 4);
        fill(x, 3, -9, -9, -9, -9, -9, -9, -9, -9, -9, -9, -9, -9, 0);
        fill(x, 4, 3, 3);
        x.text(1, 0);
        x.text(2, 60);
        x.put(2, 59, -128);
        x.mid(5);
        x.at(0, 1);
        x.tear(5);
        x.tear(5);
        x.at(0, 3);
        x.row(5, -1);
        x.mark(0, 1);
        x.mean(1);
    }

    /** A street by its signs, in which n deeds have been done by steps on and back. */
    static PinDuties walked(String signs, int n) {
        PinDuties x = street(signs);
        walk(x, n);
        return x;
    }

    static void walk(PinDuties x, int n) {
        for (int i = 0; i < n; i++) {
            x.step(i % 2 == 0 ? 1 : -1);
        }
    }

    static PinDuties at(PinDuties x, int place) {
        while (x.count(1) < place && x.step(1) > 0) {
            continue;
        }
        return x;
    }

    static void pick(PinDuties x, int... pins) {
        for (int k : pins) {
            x.pick(k);
        }
    }

    /** Numbers that are not low .. high: just outside, far outside, the least and the greatest. */
    static int[] outside(int low, int high) {
        return new int[] {low - 1, high + 1, low - 256, high + 256, Integer.MIN_VALUE, Integer.MAX_VALUE};
    }
}
