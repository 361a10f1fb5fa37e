import java.nio.file.Files;
import java.nio.file.Path;
import java.util.ArrayList;
import java.util.List;
import java.util.function.BooleanSupplier;
import java.util.function.IntSupplier;

/**
 * What the tests of the document's sentences share. A test begins with of(promise, words), the words being the
 * document's own; all answers behind it, up to the next one, are that test's. Words that the document has not, a test
 * without an answer, and in the end words of the document that no test is of, are wrong, too.
 */
final class Sentences {
    static final int NONE = OddColumns.NONE;
    static final int LEAST = Integer.MIN_VALUE;
    static final int MOST = Integer.MAX_VALUE;
    static final int TERMS = 0;
    private static final int PROMISES = 46;

    private final String[] sections = new String[PROMISES + 1];
    private final boolean[][] quoted = new boolean[PROMISES + 1][];
    private String test = "";
    private int answersOfTest = 1;
    private int answers = 0;
    private int tests = 0;
    private int wrong = 0;

    Sentences(Path document) throws Exception {
        String text = Files.readString(document);
        sections[TERMS] = plain(between(text, "## Terms", "## Promise 1:"));
        for (int p = 1; p <= PROMISES; p++) {
            String next = p < PROMISES ? "## Promise " + (p + 1) + ":" : "## Not promised";
            String section = between(text, "## Promise " + p + ":", next);
            sections[p] = plain(section.substring(section.indexOf("`: ") + 3));
        }
        for (int p = 0; p <= PROMISES; p++) {
            quoted[p] = new boolean[sections[p].length()];
        }
    }

    private static String between(String text, String from, String to) {
        int start = text.indexOf(from) + from.length();
        return text.substring(start, text.indexOf(to, start));
    }

    private static String plain(String text) {
        return text.replace("```text", " ").replaceAll("```|==== [0-9][.]|`", " ").replaceAll("\\s+", " ").trim();
    }

    // ---------------------------------------------------------------- tests

    void of(int promise, String words) {
        endTest();
        tests++;
        answersOfTest = 0;
        test = (promise == TERMS ? "Terms" : "promise " + promise) + ", \"" + words + "\"";
        String looked = plain(words);
        int at = sections[promise].indexOf(looked);
        if (at < 0) {
            bad("the document has no such words");
        }
        for (; at >= 0; at = sections[promise].indexOf(looked, at + 1)) {
            java.util.Arrays.fill(quoted[promise], at, at + looked.length(), true);
        }
    }

    private void endTest() {
        if (answersOfTest == 0) {
            bad("has no answer that is due");
        }
    }

    private void bad(String what) {
        wrong++;
        System.out.println(test + ": " + what);
    }

    boolean end() {
        endTest();
        for (int p = 0; p <= PROMISES; p++) {
            for (String left : leftOf(p)) {
                test = p == TERMS ? "Terms" : "promise " + p;
                bad("no test is of \"" + left + "\"");
            }
        }
        System.out.println(tests + " sentences, " + answers + " answers, " + wrong + " wrong");
        return wrong == 0;
    }

    private List<String> leftOf(int promise) {
        List<String> left = new ArrayList<>();
        StringBuilder run = new StringBuilder();
        for (int i = 0; i <= quoted[promise].length; i++) {
            boolean ends = i == quoted[promise].length || quoted[promise][i];
            if (!ends) {
                run.append(sections[promise].charAt(i));
            } else if (run.length() > 0) {
                if (run.toString().matches(".*[a-zA-Z0-9].*")) {
                    left.add(run.toString());
                }
                run.setLength(0);
            }
        }
        return left;
    }

    // ---------------------------------------------------------------- what is due

    void due(String call, int got, int want) {
        answers++;
        answersOfTest++;
        if (got != want) {
            bad(call + " answered " + got + ", due is " + want);
        }
    }

    void yes(String call, boolean got) {
        due(call, got ? 1 : 0, 1);
    }

    void no(String call, boolean got) {
        due(call, got ? 1 : 0, 0);
    }

    void none(String call, int got) {
        due(call, got, NONE);
    }

    void same(String what, String got, String want) {
        answers++;
        answersOfTest++;
        if (!got.equals(want)) {
            bad(what + " is " + got + ", due is " + want);
        }
    }

    /** NONE, and nothing happens. */
    void refused(OddColumns x, String call, IntSupplier answer) {
        String ahead = all(x);
        none(call, answer.getAsInt());
        same("all behind " + call, all(x), ahead);
    }

    /** false, and nothing happens. */
    void denied(OddColumns x, String call, BooleanSupplier answer) {
        String ahead = all(x);
        no(call, answer.getAsBoolean());
        same("all behind " + call, all(x), ahead);
    }

    /** Nothing happens, whatever the answer. */
    void still(OddColumns x, String call, IntSupplier answer, int want) {
        String ahead = all(x);
        due(call, answer.getAsInt(), want);
        same("all behind " + call, all(x), ahead);
    }

    void columnsAre(OddColumns x, int... want) {
        for (int place = 0; place < want.length; place++) {
            due("columnOf(" + place + ")", x.columnOf(place), want[place]);
        }
    }

    void readingIs(OddColumns x, int word, int kind, int place, int data, int right) {
        due("reading(" + word + ", 0)", x.reading(word, 0), kind);
        due("reading(" + word + ", 1)", x.reading(word, 1), place);
        due("reading(" + word + ", 2)", x.reading(word, 2), data);
        due("reading(" + word + ", 3)", x.reading(word, 3), right);
    }

    void talliesAre(OddColumns x, int... want) {
        for (int what = 0; what < want.length; what++) {
            due("tally(" + what + ")", x.tally(what), want[what]);
        }
    }

    /** The text is taken, and has so many places. */
    void good(String text, int places) {
        OddColumns x = new OddColumns();
        due("code() of " + text, give(x, text), places);
        due("fault(0) of " + text, x.fault(0), 0);
        due("fault(1) of " + text, x.fault(1), NONE);
    }

    void fault(String text, int kind, int place) {
        OddColumns x = new OddColumns();
        due("code() of " + text, give(x, text), NONE);
        due("fault(0) of " + text, x.fault(0), kind);
        due("fault(1) of " + text, x.fault(1), place);
    }

    // ---------------------------------------------------------------- objects

    static void feedText(OddColumns x, String text) {
        for (int i = 0; i < text.length(); i += 20) {
            int[] n = new int[5];
            for (int j = 0; j < 20; j++) {
                n[j / 4] = n[j / 4] << 8 | (i + j < text.length() ? text.charAt(i + j) : ' ');
            }
            x.feed(n[0], n[1], n[2], n[3], n[4]);
        }
        x.end(text.length());
    }

    static int give(OddColumns x, String text) {
        x.end(0);
        feedText(x, text);
        return x.code();
    }

    OddColumns made(String text) {
        OddColumns x = new OddColumns();
        if (give(x, text) == NONE) {
            bad("code() of " + text + " has fault " + x.fault(0) + " at " + x.fault(1));
        }
        return x;
    }

    /** One with something of all that a call could change by mistake: an act to do again, a tape, a box, too. */
    static OddColumns busy() {
        OddColumns x = new OddColumns();
        give(x, "word 0 5; word 15 200; word 7 77;");
        x.column(2, 26);
        x.slip(1, 3);
        x.mend(1);
        x.burst(2, 4, 2);
        x.stick(3, 0, 1);
        x.stick(3, 12, 0);
        x.stick(4, 6, 1);
        x.slip(5, 12);
        x.image(1);
        x.write(6, 99);
        x.undo();
        x.feed(1, 2, 3, 4, 5);
        return x;
    }

    /** All that can be seen of an object. */
    static String all(OddColumns x) {
        StringBuilder sb = new StringBuilder();
        for (int what = 0; what < 8; what++) {
            sb.append(x.about(what)).append(' ').append(x.tally(what)).append(' ');
        }
        sb.append("fault ").append(x.fault(0)).append(' ').append(x.fault(1)).append(" columns");
        for (int place = 0; place < 32; place++) {
            sb.append(' ').append(x.columnOf(place));
        }
        for (int word = 0; word < 16; word++) {
            sb.append(" word ").append(word);
            for (int what = 0; what < 5; what++) {
                sb.append(' ').append(x.word(word, what));
            }
            sb.append(' ').append(x.stuck(word, 0)).append(' ').append(x.stuck(word, 1));
        }
        return sb.toString();
    }

    /** All that looks answer, besides. */
    String looks(OddColumns x) {
        StringBuilder sb = new StringBuilder(all(x));
        for (int what = 0; what < 4; what++) {
            sb.append(" | ").append(x.rows(what)).append(' ').append(x.threes(what)).append(' ').append(x.twos(what));
            sb.append(' ').append(x.change(what)).append(' ').append(x.gates(what)).append(' ').append(x.exchange(what));
            sb.append(' ').append(x.chip(NONE, what)).append(' ').append(x.fours());
            for (int i = 0; i < 70; i++) {
                sb.append(' ').append(x.shared(i, what));
            }
            for (int i = 0; i < 16; i++) {
                sb.append(' ').append(x.reading(i, what)).append(' ').append(x.stands(i, what));
                sb.append(' ').append(x.chip(i, what)).append(' ').append(x.row(i, what)).append(' ').append(x.columns(i, what));
            }
            sb.append(' ').append(x.worst(20, what, 0)).append(' ').append(x.interval(what, 20));
        }
        for (int syndrome = 0; syndrome < 256; syndrome++) {
            sb.append(' ').append(x.find(syndrome, 0)).append(' ').append(x.find(syndrome, 1));
        }
        return sb.toString();
    }

    /** Behind what leaves no act: more acts than are kept, taken back and done again. */
    void actsGoOn(String where, OddColumns x) {
        due("about(5) " + where, x.about(5), 0);
        due("about(6) " + where, x.about(6), 0);
        for (int i = 1; i <= 13; i++) {
            x.write(1, i);
        }
        for (int i = 12; i >= 1; i--) {
            yes("undo() " + where, x.undo());
            due("word(1, 0) " + where, x.word(1, 0), i);
        }
        no("undo() " + where, x.undo());
        for (int i = 2; i <= 13; i++) {
            yes("redo() " + where, x.redo());
            due("word(1, 0) " + where, x.word(1, 0), i);
        }
    }

    /** Numbers beside those from least to most. */
    static int[] beside(int least, int most) {
        return new int[] {LEAST, LEAST + 1, -65536 + least, -256 + least, least - 2, least - 1, most + 1, most + 2,
            most + 256, most + 65536, MOST - 1, MOST};
    }
}
