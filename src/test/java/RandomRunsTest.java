import java.util.ArrayList;
import java.util.List;
import java.util.Random;

/** Runs of calls drawn by fixed seeds: the class and the plain model must answer alike. */
public final class RandomRunsTest {
    private static final int RUNS = Integer.getInteger("runs", 150);
    private static final int CALLS = 512;
    private static final int[] WILD = {Integer.MIN_VALUE, Integer.MAX_VALUE, -2, -1, 256, 1 << 24, 1 << 30, 32, 31, 600};

    private final Random random;
    private final OddColumns is = new OddColumns();
    private final PlainModel due = new PlainModel();
    private final List<String> calls = new ArrayList<>();
    private boolean same = true;

    private RandomRunsTest(long seed) {
        random = new Random(seed);
    }

    public static void main(String[] args) {
        int wrong = 0;
        long from = Long.getLong("from", 0);
        for (long seed = from; seed < from + RUNS && wrong < 5; seed++) {
            RandomRunsTest run = new RandomRunsTest(seed);
            if (!run.go()) {
                wrong++;
                System.out.println("run of seed " + seed + ", its last calls:");
                int size = run.calls.size();
                run.calls.subList(Math.max(0, size - 30), size).forEach(System.out::println);
            }
        }
        System.out.println(wrong == 0 ? "RandomRunsTest: all alike" : "RandomRunsTest: not alike");
        if (wrong != 0) {
            System.exit(1);
        }
    }

    private boolean go() {
        if (random.nextInt(4) > 0) {
            giveText(goodText());
        }
        // One run goes with few kinds of words, so that words collect slips, stuck places, parts.
        int words = random.nextBoolean() ? 16 : 1 + random.nextInt(4);
        while (calls.size() < CALLS && same) {
            step(words);
        }
        return same;
    }

    private void check(String call, long a, long b) {
        calls.add(call + " answered " + a + (a == b ? "" : ", due is " + b));
        same &= a == b;
    }

    private void check(String call, boolean a, boolean b) {
        check(call, a ? 1L : 0L, b ? 1L : 0L);
    }

    private int upTo(int n) {
        return random.nextInt(30) == 0 ? WILD[random.nextInt(WILD.length)] : random.nextInt(n + 1);
    }

    private int value() {
        return random.nextInt(20) == 0 ? WILD[random.nextInt(WILD.length)] : random.nextInt(1 << due.now.data);
    }

    private void step(int words) {
        int w = upTo(words - 1);
        int p = upTo(due.now.n() - 1);
        switch (random.nextInt(27)) {
            case 0: case 1: case 2: slips(w, p); break;
            case 3: writes(w); break;
            case 4: case 5: mends(w); break;
            case 6: sticks(w, p); break;
            case 7: changesCode(p); break;
            case 8: case 9: case 10: steps(); break;
            case 11: case 12: case 13: case 14: looksAtWord(w); break;
            case 15: looksAtAll(); break;
            case 16: looksAtCode(p); break;
            case 17: looksAtSets(); break;
            case 18: searches(); break;
            case 19: storms(); break;
            case 20: boxesUsed(); break;
            case 21: if (random.nextInt(12) == 0) giveText(random.nextInt(3) == 0 ? goodText() : spoilt(goodText())); break;
            case 22: tapes(); break;
            default: looksAtWord(w); break;
        }
    }

    private void slips(int w, int p) {
        if (random.nextInt(3) == 0) {
            int n = upTo(4);
            check("burst(" + w + ", " + p + ", " + n + ")", is.burst(w, p, n), due.burst(w, p, n));
        } else {
            check("slip(" + w + ", " + p + ")", is.slip(w, p), due.slip(w, p));
        }
    }

    private void writes(int w) {
        int v = value();
        if (random.nextInt(3) == 0) {
            check("write(" + w + ", " + v + ")", is.write(w, v), due.write(w, v));
        } else {
            int m = value();
            check("part(" + w + ", " + m + ", " + v + ")", is.part(w, m, v), due.part(w, m, v));
        }
    }

    private void mends(int w) {
        if (random.nextInt(4) == 0) {
            check("scrub()", is.scrub(), due.scrub());
        } else {
            check("mend(" + w + ")", is.mend(w), due.mend(w));
        }
    }

    private void sticks(int w, int p) {
        if (random.nextInt(4) == 0) {
            check("free(" + w + ")", is.free(w), due.free(w));
        } else {
            int v = upTo(1);
            check("stick(" + w + ", " + p + ", " + v + ")", is.stick(w, p, v), due.stick(w, p, v));
        }
    }

    private void changesCode(int p) {
        switch (random.nextInt(6)) {
            case 0: {
                int c = upTo((1 << due.now.checks) - 1);
                check("column(" + p + ", " + c + ")", is.column(p, c), due.column(p, c));
                break;
            }
            case 1: {
                int q = upTo(due.now.data);
                check("swap(" + p + ", " + q + ")", is.swap(p, q), due.swap(p, q));
                break;
            }
            case 2: {
                int way = upTo(2);
                check("way(" + way + ")", is.way(way), due.way(way));
                break;
            }
            case 3: case 4: {
                boolean are = random.nextBoolean();
                check("pairs(" + are + ")", is.pairs(are), due.pairs(are));
                break;
            }
            default: check("better()", is.better(), due.better()); break;
        }
    }

    private void steps() {
        int times = random.nextInt(8) == 0 ? 14 : 1 + random.nextInt(2);
        boolean back = random.nextBoolean();
        for (int i = 0; i < times; i++) {
            if (back) {
                check("undo()", is.undo(), due.undo());
            } else {
                check("redo()", is.redo(), due.redo());
            }
        }
    }

    private void looksAtWord(int w) {
        int what = upTo(4);
        switch (random.nextInt(4)) {
            case 0: check("word(" + w + ", " + what + ")", is.word(w, what), due.word(w, what)); break;
            case 1: check("reading(" + w + ", " + what + ")", is.reading(w, what), due.reading(w, what)); break;
            case 2: check("stuck(" + w + ", " + what + ")", is.stuck(w, what), due.stuck(w, what)); break;
            default: check("stands(" + w + ", " + what + ")", is.stands(w, what), due.stands(w, what)); break;
        }
    }

    private void looksAtAll() {
        int what = upTo(8);
        if (random.nextBoolean()) {
            check("about(" + what + ")", is.about(what), due.about(what));
        } else {
            check("tally(" + what + ")", is.tally(what), due.tally(what));
        }
    }

    private void looksAtCode(int p) {
        int what = upTo(3);
        int row = upTo(8);
        int x = upTo(255);
        switch (random.nextInt(6)) {
            case 0: check("columnOf(" + p + ")", is.columnOf(p), due.columnOf(p)); break;
            case 1: check("row(" + row + ", " + what + ")", is.row(row, what), due.row(row, what)); break;
            case 2: check("rows(" + what + ")", is.rows(what), due.rows(what)); break;
            case 3: check("find(" + x + ", " + what + ")", is.find(x, what), due.find(x, what)); break;
            case 4: check("fewest(" + x + ")", is.fewest(x), due.fewest(x)); break;
            default: check("columns(" + row + ", " + what + ")", is.columns(row, what), due.columns(row, what)); break;
        }
    }

    private void looksAtSets() {
        int what = upTo(4);
        int i = upTo(12) - random.nextInt(2);
        switch (random.nextInt(6)) {
            case 0: check("threes(" + what + ")", is.threes(what), due.threes(what)); break;
            case 1: check("fours()", is.fours(), due.fours()); break;
            case 2: check("twos(" + what + ")", is.twos(what), due.twos(what)); break;
            case 3: check("gates(" + what + ")", is.gates(what), due.gates(what)); break;
            case 4: check("shared(" + i + ", " + what + ")", is.shared(i, what), due.shared(i, what)); break;
            default: check("chip(" + i + ", " + what + ")", is.chip(i, what), due.chip(i, what)); break;
        }
    }

    private void searches() {
        int what = upTo(2);
        if (random.nextInt(4) > 0) {
            return;
        }
        if (random.nextBoolean()) {
            check("change(" + what + ")", is.change(what), due.change(what));
        } else {
            check("exchange(" + what + ")", is.exchange(what), due.exchange(what));
        }
    }

    private void storms() {
        int seed = upTo(10000);
        int n = upTo(random.nextInt(3) == 0 ? 201 : 20);
        int every = upTo(random.nextInt(3) == 0 ? 51 : 6);
        int what = upTo(2);
        switch (random.nextInt(8)) {
            case 0: case 1: case 2:
                check("storm(" + seed + ", " + n + ", " + every + ")", is.storm(seed, n, every), due.storm(seed, n, every));
                break;
            case 3: case 4:
                check("would(" + seed + ", " + n + ", " + every + ")", is.would(seed, n, every), due.would(seed, n, every));
                break;
            case 5: case 6:
                check("interval(" + seed + ", " + n + ")", is.interval(seed, n), due.interval(seed, n));
                break;
            default:
                if (random.nextInt(3) == 0) {
                    check("worst(" + n + ", " + every + ", " + what + ")", is.worst(n, every, what), due.worst(n, every, what));
                }
                break;
        }
    }

    private void boxesUsed() {
        int box = upTo(1);
        if (random.nextBoolean()) {
            check("image(" + box + ")", is.image(box), due.image(box));
        } else {
            check("back(" + box + ")", is.back(box), due.back(box));
        }
    }

    private void tapes() {
        if (random.nextInt(6) > 0) {
            return;
        }
        if (random.nextInt(3) == 0) {
            int n = upTo(100);
            check("end(" + n + ")", is.end(n), due.end(n));
        } else if (random.nextInt(6) == 0) {
            for (int i = 0; i < 31; i++) {
                check("feed(..)", is.feed(i, i, i, i, i), due.feed(i, i, i, i, i));
            }
            check("about(7)", is.about(7), due.about(7));
            check("end(0)", is.end(0), due.end(0));
        } else {
            giveText(noise());
        }
    }

    // ---------------------------------------------------------------- texts

    private void giveText(String text) {
        check("end(0)", is.end(0), due.end(0));
        for (int i = 0; i < text.length(); i += 20) {
            int[] n = new int[5];
            for (int j = 0; j < 20; j++) {
                n[j / 4] = n[j / 4] << 8 | (i + j < text.length() ? text.charAt(i + j) & 255 : 32);
            }
            check("feed of \"" + text + "\"", is.feed(n[0], n[1], n[2], n[3], n[4]), due.feed(n));
        }
        check("end(" + text.length() + ")", is.end(text.length()), due.end(text.length()));
        check("code()", is.code(), due.code());
        check("fault(0)", is.fault(0), due.fault(0));
        check("fault(1)", is.fault(1), due.fault(1));
        check("about(7)", is.about(7), due.about(7));
    }

    private String gap() {
        String[] gaps = {" ", "  ", "\n", " \n"};
        return gaps[random.nextInt(gaps.length)];
    }

    private String goodText() {
        int checks = 4 + random.nextInt(5);
        int most = Math.min(24, (1 << (checks - 1)) - checks);
        int data = 4 + random.nextInt(most - 3);
        List<String> head = new ArrayList<>();
        head.add("data" + gap() + data + ";");
        head.add("checks " + checks + gap() + ";");
        if (random.nextBoolean()) {
            head.add("way " + new String[] {"first", "balanced", "paired"}[random.nextInt(3)] + ";");
        }
        if (random.nextBoolean()) {
            head.add("pairs" + (random.nextBoolean() ? "" : gap()) + ";");
        }
        java.util.Collections.shuffle(head, random);
        StringBuilder sb = new StringBuilder();
        head.forEach(line -> sb.append(line).append(gap()));
        int lines = random.nextInt(6);
        for (int i = 0; i < lines; i++) {
            if (random.nextInt(3) == 0) {
                sb.append("column ").append(random.nextInt(data)).append(' ').append(oddColumn(checks)).append(';');
            } else {
                sb.append("word ").append(random.nextInt(16)).append(gap()).append(random.nextInt(1 << data)).append(" ;");
            }
        }
        return sb.toString();
    }

    private int oddColumn(int checks) {
        while (true) {
            int c = random.nextInt(1 << checks);
            if (Integer.bitCount(c) % 2 == 1 && Integer.bitCount(c) > 1) {
                return c;
            }
        }
    }

    private String spoilt(String text) {
        StringBuilder sb = new StringBuilder(text);
        int at = random.nextInt(sb.length());
        String[] bits = {";", "data 5;", "pairs;", "x", "7", "99999999999999999999", "word", " column 0 7;", "way first;", "\t", "\u00e9", "word 16 0;", "\0"};
        switch (random.nextInt(4)) {
            case 0: sb.deleteCharAt(at); break;
            case 1: sb.setLength(at); break;
            case 2: sb.insert(at, bits[random.nextInt(bits.length)]); break;
            default: sb.append(bits[random.nextInt(bits.length)]); break;
        }
        return sb.toString();
    }

    private String noise() {
        String[] parts = {"data", "checks", "way", "pairs", "column", "word", "first", "balanced", "paired", ";", ";", " ", "\n", "4", "5", "11", "0", "007", "20", "12"};
        StringBuilder sb = new StringBuilder();
        int n = random.nextInt(14);
        for (int i = 0; i < n; i++) {
            sb.append(parts[random.nextInt(parts.length)]);
            if (random.nextInt(3) > 0) {
                sb.append(' ');
            }
        }
        return sb.toString();
    }
}
