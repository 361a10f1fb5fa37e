import java.util.ArrayDeque;
import java.util.ArrayList;
import java.util.Arrays;
import java.util.Deque;
import java.util.HashSet;
import java.util.LinkedHashMap;
import java.util.List;
import java.util.Map;
import java.util.Set;
import java.util.TreeSet;

/**
 * The document once more, told as slowly and plainly as can be and by other means than the class:
 * words are rows of bits, nothing is looked up in tables, all counts go by trying.
 */
final class PlainModel {
    static final int NONE = -1;

    /** What acts change. */
    static final class World {
        int data = 8;
        int checks = 5;
        boolean pairs;
        List<Integer> columns = new ArrayList<>();
        boolean[][] bits = new boolean[16][];
        int[] meantData = new int[16];
        List<TreeSet<Integer>> stuck = new ArrayList<>();
        int[] tallies = new int[8];

        World copy() {
            World w = new World();
            w.data = data;
            w.checks = checks;
            w.pairs = pairs;
            w.columns = new ArrayList<>(columns);
            for (int i = 0; i < 16; i++) {
                w.bits[i] = bits[i].clone();
                w.stuck.add(new TreeSet<>(stuck.get(i)));
            }
            w.meantData = meantData.clone();
            w.tallies = tallies.clone();
            return w;
        }

        int n() {
            return data + checks;
        }

        boolean[] encoded(int value) {
            boolean[] r = new boolean[n()];
            for (int p = 0; p < data; p++) {
                r[p] = (value >> p) % 2 == 1;
            }
            for (int row = 0; row < checks; row++) {
                boolean x = false;
                for (int p = 0; p < data; p++) {
                    if ((columns.get(p) >> row) % 2 == 1) {
                        x ^= r[p];
                    }
                }
                r[data + row] = x;
            }
            return r;
        }

        boolean[] meant(int word) {
            return encoded(meantData[word]);
        }

        boolean asMeant(int word) {
            return Arrays.equals(bits[word], meant(word));
        }

        int notMeant() {
            int c = 0;
            for (int w = 0; w < 16; w++) {
                c += asMeant(w) ? 0 : 1;
            }
            return c;
        }

        void store(int word, boolean[] what) {
            for (int p = 0; p < n(); p++) {
                if (!stuck.get(word).contains(p)) {
                    bits[word][p] = what[p];
                }
            }
        }

        void writeWord(int word, int value) {
            meantData[word] = value;
            store(word, encoded(value));
        }

        void rewriteAll() {
            for (int w = 0; w < 16; w++) {
                writeWord(w, meantData[w]);
            }
        }

        boolean turn(int word, int place) {
            if (stuck.get(word).contains(place)) {
                return false;
            }
            bits[word][place] = !bits[word][place];
            return true;
        }

        void slipAt(int word, int place) {
            if (turn(word, place)) {
                tallies[7]++;
            }
        }

        int mendAt(int word) {
            Read r = readOf(this, bits[word], stuck.get(word));
            count(r, word);
            if (r.result != null) {
                store(word, r.result);
            }
            return r.kind;
        }

        void count(Read r, int word) {
            tallies[r.kind]++;
            if (r.result != null && !Arrays.equals(r.result, meant(word))) {
                tallies[6]++;
            }
        }

        int scrubAll() {
            int c = 0;
            for (int w = 0; w < 16; w++) {
                int k = mendAt(w);
                if (k == 1 || k == 2 || k == 5) {
                    c++;
                }
            }
            return c;
        }

        void stormBy(int seed, int slips, int every) {
            long s = seed;
            int since = 0;
            for (int i = 0; i < slips; i++) {
                s = (s * 137 + 71) % 10007;
                int word = (int) (s % 16);
                s = (s * 137 + 71) % 10007;
                slipAt(word, (int) (s % n()));
                since++;
                if (since == every) {
                    scrubAll();
                    since = 0;
                }
            }
        }
    }

    static final class Read {
        int kind;
        int place = NONE;
        boolean[] result;
    }

    static int syndrome(World w, boolean[] bits) {
        int s = 0;
        for (int p = 0; p < w.n(); p++) {
            if (bits[p]) {
                s ^= w.columns.get(p);
            }
        }
        return s;
    }

    static boolean[] turned(boolean[] bits, int... places) {
        boolean[] r = bits.clone();
        for (int p : places) {
            r[p] = !r[p];
        }
        return r;
    }

    static Read made(int kind, int place, boolean[] result) {
        Read r = new Read();
        r.kind = kind;
        r.place = place;
        r.result = result;
        return r;
    }

    static Read readOf(World w, boolean[] bits, TreeSet<Integer> stuck) {
        int s = syndrome(w, bits);
        if (s == 0) {
            return made(0, NONE, bits.clone());
        }
        if (!stuck.isEmpty()) {
            int a = stuck.first();
            int b = stuck.last();
            if (syndrome(w, turned(bits, a)) == 0) {
                return made(5, NONE, turned(bits, a));
            }
            if (stuck.size() == 2) {
                if (syndrome(w, turned(bits, b)) == 0) {
                    return made(5, NONE, turned(bits, b));
                }
                if (syndrome(w, turned(bits, a, b)) == 0) {
                    return made(5, NONE, turned(bits, a, b));
                }
            } else {
                for (int p = 0; p < w.n(); p++) {
                    if (p != a && w.columns.get(p) == s) {
                        return made(1, p, turned(bits, p));
                    }
                }
                for (int p = 0; p < w.n(); p++) {
                    if (p != a && syndrome(w, turned(bits, a, p)) == 0) {
                        return made(5, p, turned(bits, a, p));
                    }
                }
            }
        }
        if (stuck.size() != 1) {
            for (int p = 0; p < w.n(); p++) {
                if (syndrome(w, turned(bits, p)) == 0) {
                    return made(1, p, turned(bits, p));
                }
            }
        }
        if (w.pairs) {
            for (int p = 0; p + 1 < w.n(); p++) {
                if (syndrome(w, turned(bits, p, p + 1)) == 0) {
                    return made(2, p, turned(bits, p, p + 1));
                }
            }
        }
        return made(ones(s) % 2 == 0 ? 3 : 4, NONE, null);
    }

    static int ones(int x) {
        int c = 0;
        for (int i = 0; i < 31; i++) {
            c += (x >> i) % 2;
        }
        return c;
    }

    static List<Integer> allColumns(int checks) {
        List<Integer> r = new ArrayList<>();
        for (int o = 3; o <= checks; o += 2) {
            for (int c = 0; c < Math.pow(2, checks); c++) {
                if (ones(c) == o) {
                    r.add(c);
                }
            }
        }
        return r;
    }

    static int power(int of) {
        int r = 1;
        for (int i = 0; i < of; i++) {
            r *= 2;
        }
        return r;
    }

    // The columns of all places, or null if none can be chosen.
    static List<Integer> choose(int data, int checks, int way) {
        List<Integer> all = allColumns(checks);
        if (all.size() < data) {
            return null;
        }
        List<Integer> r = new ArrayList<>();
        if (way == 0) {
            r.addAll(all.subList(0, data));
        } else if (way == 1) {
            chooseBalanced(r, all, data, checks);
        } else {
            int[] tried = new int[1];
            if (!tryPaired(r, all, data, checks, tried)) {
                return null;
            }
        }
        for (int i = 0; i < checks; i++) {
            r.add(power(i));
        }
        return r;
    }

    static void chooseBalanced(List<Integer> r, List<Integer> all, int data, int checks) {
        while (r.size() < data) {
            int few = 99;
            for (int c : all) {
                if (!r.contains(c)) {
                    few = Math.min(few, ones(c));
                }
            }
            int best = NONE;
            int bestMost = 999;
            for (int c : new TreeSet<>(all)) {
                if (r.contains(c) || ones(c) != few) {
                    continue;
                }
                int most = 0;
                for (int row = 0; row < checks; row++) {
                    int wires = (c >> row) % 2;
                    for (int x : r) {
                        wires += (x >> row) % 2;
                    }
                    most = Math.max(most, wires);
                }
                if (most < bestMost) {
                    best = c;
                    bestMost = most;
                }
            }
            r.add(best);
        }
    }

    static boolean tryPaired(List<Integer> r, List<Integer> all, int data, int checks, int[] tried) {
        if (r.size() == data) {
            return true;
        }
        for (int c : all) {
            if (r.contains(c)) {
                continue;
            }
            tried[0]++;
            if (tried[0] > 20000) {
                return false;
            }
            r.add(c);
            if (unlike(r, data, checks) && tryPaired(r, all, data, checks, tried)) {
                return true;
            }
            r.remove(r.size() - 1);
            if (tried[0] > 20000) {
                return false;
            }
        }
        return false;
    }

    static boolean unlike(List<Integer> r, int data, int checks) {
        Set<Integer> seen = new HashSet<>();
        for (int i = 0; i + 1 < checks; i++) {
            seen.add(power(i) ^ power(i + 1));
        }
        for (int i = 0; i + 1 < r.size(); i++) {
            if (!seen.add(r.get(i) ^ r.get(i + 1))) {
                return false;
            }
        }
        return r.size() < data || seen.add(r.get(data - 1) ^ 1);
    }

    // ---------------------------------------------------------------- the object

    World now = new World();
    Deque<World> before = new ArrayDeque<>();
    Deque<World> after = new ArrayDeque<>();
    World[] boxes = new World[2];
    List<Integer> tape = new ArrayList<>();
    int faultKind = 0;
    int faultPlace = NONE;

    PlainModel() {
        now.columns = choose(8, 5, 0);
        for (int i = 0; i < 16; i++) {
            now.bits[i] = new boolean[13];
            now.stuck.add(new TreeSet<>());
        }
    }

    void act() {
        before.addLast(now.copy());
        if (before.size() > 12) {
            before.removeFirst();
        }
        after.clear();
    }

    boolean isWord(int w) {
        return w >= 0 && w <= 15;
    }

    boolean isPlace(int p) {
        return p >= 0 && p < now.n();
    }

    boolean isData(int p) {
        return p >= 0 && p < now.data;
    }

    boolean isValue(int v) {
        return v >= 0 && v < power(now.data);
    }

    int feed(int... numbers) {
        if (tape.size() + 20 > 600) {
            return NONE;
        }
        for (int x : numbers) {
            tape.add(x >> 24 & 255);
            tape.add(x >> 16 & 255);
            tape.add(x >> 8 & 255);
            tape.add(x & 255);
        }
        return tape.size();
    }

    int end(int n) {
        if (n < 0 || n > tape.size()) {
            return NONE;
        }
        tape = new ArrayList<>(tape.subList(0, n));
        return n;
    }

    static final class Fault extends RuntimeException {
        private static final long serialVersionUID = 1L;
        final int kind;
        final int place;

        Fault(int kind, int place) {
            this.kind = kind;
            this.place = place;
        }
    }

    /** A token: its text ("" at the end) and its place. */
    static final class Token {
        String text;
        int place;

        Token(String text, int place) {
            this.text = text;
            this.place = place;
        }

        long number(long low, long high) {
            if (!text.matches("[0-9]+")) {
                throw new Fault(1, place);
            }
            java.math.BigInteger v = new java.math.BigInteger(text);
            if (v.compareTo(java.math.BigInteger.valueOf(low)) < 0 || v.compareTo(java.math.BigInteger.valueOf(high)) > 0) {
                throw new Fault(2, place);
            }
            return v.longValue();
        }
    }

    static List<Token> tokens(String text) {
        List<Token> r = new ArrayList<>();
        java.util.regex.Matcher m = java.util.regex.Pattern.compile("[a-z]+|[0-9]+|[^ \n]", java.util.regex.Pattern.DOTALL).matcher(text);
        while (m.find()) {
            r.add(new Token(m.group(), m.start()));
        }
        r.add(new Token("", text.length()));
        return r;
    }

    int code() {
        StringBuilder sb = new StringBuilder();
        for (int b : tape) {
            sb.append((char) b);
        }
        tape.clear();
        try {
            World w = parsed(tokens(sb.toString()));
            now = w;
            before.clear();
            after.clear();
            boxes = new World[2];
            faultKind = 0;
            faultPlace = NONE;
            return w.n();
        } catch (Fault f) {
            faultKind = f.kind;
            faultPlace = f.place;
            return NONE;
        }
    }

    static World parsed(List<Token> ts) {
        World w = new World();
        int way = 0;
        boolean behind = false;
        Set<String> told = new HashSet<>();
        Map<Integer, Integer> words = new LinkedHashMap<>();
        int i = 0;
        while (!ts.get(i).text.isEmpty()) {
            Token t = ts.get(i++);
            boolean headLine = List.of("data", "checks", "way", "pairs").contains(t.text);
            if (!headLine && !t.text.equals("column") && !t.text.equals("word")) {
                throw new Fault(1, t.place);
            }
            if (headLine && (behind || !told.add(t.text))) {
                throw new Fault(3, t.place);
            }
            if (!headLine && !behind) {
                chooseFor(w, way, t.place);
                behind = true;
            }
            if (t.text.equals("data")) {
                w.data = (int) ts.get(i++).number(4, 24);
            } else if (t.text.equals("checks")) {
                w.checks = (int) ts.get(i++).number(4, 8);
            } else if (t.text.equals("way")) {
                way = List.of("first", "balanced", "paired").indexOf(ts.get(i).text);
                if (way < 0) {
                    throw new Fault(1, ts.get(i).place);
                }
                i++;
            } else if (t.text.equals("pairs")) {
                w.pairs = true;
            } else if (t.text.equals("column")) {
                int p = (int) ts.get(i++).number(0, w.data - 1);
                Token at = ts.get(i++);
                int c = (int) at.number(0, 1000000);
                int has = w.columns.indexOf(c);
                if (!allColumns(w.checks).contains(c) || has >= 0 && has != p) {
                    throw new Fault(2, at.place);
                }
                w.columns.set(p, c);
            } else {
                int word = (int) ts.get(i++).number(0, 15);
                words.put(word, (int) ts.get(i++).number(0, power(w.data) - 1));
            }
            if (!ts.get(i).text.equals(";")) {
                throw new Fault(1, ts.get(i).place);
            }
            i++;
        }
        if (!behind) {
            chooseFor(w, way, ts.get(i).place);
        }
        for (int x = 0; x < 16; x++) {
            w.bits[x] = new boolean[w.n()];
            w.stuck.add(new TreeSet<>());
        }
        for (Map.Entry<Integer, Integer> e : words.entrySet()) {
            w.writeWord(e.getKey(), e.getValue());
        }
        return w;
    }

    static void chooseFor(World w, int way, int place) {
        w.columns = choose(w.data, w.checks, way);
        if (w.columns == null) {
            throw new Fault(4, place);
        }
    }

    int fault(int what) {
        return what == 0 ? faultKind : what == 1 ? faultPlace : NONE;
    }

    boolean write(int word, int data) {
        if (!isWord(word) || !isValue(data)) {
            return false;
        }
        act();
        now.writeWord(word, data);
        return true;
    }

    int valueOf(boolean[] bits) {
        int v = 0;
        for (int p = 0; p < now.data; p++) {
            v += bits[p] ? power(p) : 0;
        }
        return v;
    }

    int part(int word, int mask, int data) {
        if (!isWord(word) || !isValue(mask) || !isValue(data)) {
            return NONE;
        }
        Read r = readOf(now, now.bits[word], now.stuck.get(word));
        if (r.result == null) {
            return r.kind;
        }
        act();
        now.count(r, word);
        int seen = valueOf(r.result);
        int newSeen = 0;
        int newMeant = 0;
        for (int p = 0; p < now.data; p++) {
            boolean of = (mask >> p) % 2 == 1;
            newSeen += ((of ? data : seen) >> p) % 2 * power(p);
            newMeant += ((of ? data : now.meantData[word]) >> p) % 2 * power(p);
        }
        now.writeWord(word, newSeen);
        now.meantData[word] = newMeant;
        return r.kind;
    }

    int mend(int word) {
        if (!isWord(word)) {
            return NONE;
        }
        act();
        return now.mendAt(word);
    }

    int scrub() {
        act();
        return now.scrubAll();
    }

    int slip(int word, int place) {
        if (!isWord(word) || !isPlace(place)) {
            return NONE;
        }
        act();
        now.slipAt(word, place);
        return now.bits[word][place] ? 1 : 0;
    }

    boolean burst(int word, int place, int n) {
        if (!isWord(word) || n < 1 || n > 8 || !isPlace(place) || !isPlace(place + n - 1)) {
            return false;
        }
        act();
        for (int i = 0; i < n; i++) {
            now.slipAt(word, place + i);
        }
        return true;
    }

    static boolean within(int v, int low, int high) {
        return v >= low && v <= high;
    }

    int storm(int seed, int n, int every) {
        if (!within(seed, 0, 9999) || !within(n, 1, 200) || !within(every, 0, 50)) {
            return NONE;
        }
        act();
        now.stormBy(seed, n, every);
        return now.notMeant();
    }

    boolean stick(int word, int place, int v) {
        if (!isWord(word) || !isPlace(place) || !within(v, 0, 1)) {
            return false;
        }
        if (now.stuck.get(word).contains(place) || now.stuck.get(word).size() == 2) {
            return false;
        }
        act();
        now.bits[word][place] = v == 1;
        now.stuck.get(word).add(place);
        return true;
    }

    int free(int word) {
        if (!isWord(word) || now.stuck.get(word).isEmpty()) {
            return NONE;
        }
        act();
        int c = now.stuck.get(word).size();
        now.stuck.get(word).clear();
        return c;
    }

    boolean column(int place, int column) {
        if (!isData(place) || !allColumns(now.checks).contains(column) || now.columns.contains(column)) {
            return false;
        }
        act();
        now.columns.set(place, column);
        now.rewriteAll();
        return true;
    }

    boolean swap(int place, int other) {
        if (!isData(place) || !isData(other) || place == other) {
            return false;
        }
        act();
        java.util.Collections.swap(now.columns, place, other);
        now.rewriteAll();
        return true;
    }

    boolean way(int way) {
        List<Integer> c = within(way, 0, 2) ? choose(now.data, now.checks, way) : null;
        if (c == null) {
            return false;
        }
        act();
        if (!c.equals(now.columns)) {
            now.columns = c;
            now.rewriteAll();
        }
        return true;
    }

    boolean pairs(boolean are) {
        if (now.pairs == are) {
            return false;
        }
        act();
        now.pairs = are;
        return true;
    }

    int better() {
        int[] b = bestChange();
        if (b == null) {
            return NONE;
        }
        act();
        now.columns.set(b[0], b[1]);
        now.rewriteAll();
        return missed(now.columns, now.n());
    }

    boolean undo() {
        if (before.isEmpty()) {
            return false;
        }
        after.addLast(now);
        now = before.removeLast();
        return true;
    }

    boolean redo() {
        if (after.isEmpty()) {
            return false;
        }
        before.addLast(now);
        now = after.removeLast();
        return true;
    }

    int columnOf(int place) {
        return isPlace(place) ? now.columns.get(place) : NONE;
    }

    int wires(int row) {
        int c = 0;
        for (int p = 0; p < now.data; p++) {
            c += (now.columns.get(p) >> row) % 2;
        }
        return c;
    }

    static int deep(int wires) {
        if (wires == 0) {
            return NONE;
        }
        int d = 0;
        while (wires > 1) {
            wires = (wires + 1) / 2;
            d++;
        }
        return d;
    }

    int row(int row, int what) {
        if (!within(row, 0, now.checks - 1)) {
            return NONE;
        }
        return what == 0 ? wires(row) : what == 1 ? deep(wires(row)) : NONE;
    }

    int rows(int what) {
        List<Integer> all = new ArrayList<>();
        int sum = 0;
        int deepest = NONE;
        for (int r = 0; r < now.checks; r++) {
            all.add(wires(r));
            sum += wires(r);
            deepest = Math.max(deepest, deep(wires(r)));
        }
        java.util.Collections.sort(all);
        return what == 0 ? sum : what == 1 ? all.get(all.size() - 1) - all.get(0) : what == 2 ? deepest : NONE;
    }

    int word(int word, int what) {
        if (!isWord(word)) {
            return NONE;
        }
        boolean[] b = now.bits[word];
        switch (what) {
            case 0: return valueOf(b);
            case 1: {
                int v = 0;
                for (int i = 0; i < now.checks; i++) {
                    v += b[now.data + i] ? power(i) : 0;
                }
                return v;
            }
            case 2: return syndrome(now, b);
            case 3: return now.meantData[word];
            case 4: {
                int c = 0;
                for (int p = 0; p < now.n(); p++) {
                    c += b[p] != now.meant(word)[p] ? 1 : 0;
                }
                return c;
            }
            default: return NONE;
        }
    }

    int reading(int word, int what) {
        if (!isWord(word)) {
            return NONE;
        }
        Read r = readOf(now, now.bits[word], now.stuck.get(word));
        switch (what) {
            case 0: return r.kind;
            case 1: return r.place;
            case 2: return r.result == null ? NONE : valueOf(r.result);
            case 3: return r.result == null ? NONE : Arrays.equals(r.result, now.meant(word)) ? 1 : 0;
            default: return NONE;
        }
    }

    int stuck(int word, int i) {
        if (!isWord(word) || i < 0 || i >= now.stuck.get(word).size()) {
            return NONE;
        }
        return i == 0 ? now.stuck.get(word).first() : now.stuck.get(word).last();
    }

    int stands(int word, int what) {
        if (!isWord(word) || !within(what, 0, 2)) {
            return NONE;
        }
        int[] counts = new int[3];
        TreeSet<Integer> held = now.stuck.get(word);
        for (int p = 0; p < now.n(); p++) {
            if (held.contains(p)) {
                continue;
            }
            boolean[] b = now.meant(word);
            for (int s : held) {
                b[s] = now.bits[word][s];
            }
            b[p] = !b[p];
            counts[judged(readOf(now, b, held), now.meant(word))]++;
        }
        return counts[what];
    }

    static int judged(Read r, boolean[] meant) {
        return r.result == null ? 1 : Arrays.equals(r.result, meant) ? 0 : 2;
    }

    int find(int syndrome, int what) {
        if (what == 0) {
            return now.columns.indexOf(syndrome);
        }
        for (int p = 0; what == 1 && p + 1 < now.n(); p++) {
            if ((now.columns.get(p) ^ now.columns.get(p + 1)) == syndrome) {
                return p;
            }
        }
        return NONE;
    }

    static int missed(List<Integer> columns, int places) {
        int c = 0;
        boolean[] is = new boolean[256];
        for (int x : columns) {
            is[x] = true;
        }
        for (int i = 0; i < places; i++) {
            for (int j = 0; j < i; j++) {
                for (int k = 0; k < j; k++) {
                    c += is[columns.get(i) ^ columns.get(j) ^ columns.get(k)] ? 1 : 0;
                }
            }
        }
        return c;
    }

    int threes(int what) {
        switch (what) {
            case 0: return missed(now.columns, now.n());
            case 1: return missed(now.columns, now.data);
            case 2: {
                int c = 0;
                for (int i = 0; i < now.n(); i++) {
                    for (int j = 0; j < i; j++) {
                        c += j;
                    }
                }
                return c;
            }
            default: return NONE;
        }
    }

    int fours() {
        int c = 0;
        List<Integer> m = now.columns;
        for (int i = 0; i < now.n(); i++) {
            for (int j = 0; j < i; j++) {
                for (int k = 0; k < j; k++) {
                    for (int l = 0; l < k; l++) {
                        c += (m.get(i) ^ m.get(j) ^ m.get(k) ^ m.get(l)) == 0 ? 1 : 0;
                    }
                }
            }
        }
        return c;
    }

    int twos(int what) {
        List<Integer> xors = new ArrayList<>();
        for (int p = 0; p + 1 < now.n(); p++) {
            xors.add(now.columns.get(p) ^ now.columns.get(p + 1));
        }
        if (what == 0) {
            int c = 0;
            for (int i = 0; now.pairs && i < now.n(); i++) {
                for (int j = i + 2; j < now.n(); j++) {
                    c += xors.contains(now.columns.get(i) ^ now.columns.get(j)) ? 1 : 0;
                }
            }
            return c;
        }
        int lone = 0;
        for (int x : xors) {
            lone += java.util.Collections.frequency(xors, x) == 1 ? 1 : 0;
        }
        return what == 1 ? lone : what == 2 ? (lone == xors.size() ? 1 : 0) : NONE;
    }

    int[] bestChange() {
        int least = missed(now.columns, now.n());
        int[] best = null;
        for (int p = 0; p < now.data; p++) {
            for (int c : new TreeSet<>(allColumns(now.checks))) {
                if (now.columns.contains(c)) {
                    continue;
                }
                List<Integer> with = new ArrayList<>(now.columns);
                with.set(p, c);
                int m = missed(with, now.n());
                if (m < least) {
                    least = m;
                    best = new int[] {p, c, m};
                }
            }
        }
        return best;
    }

    int change(int what) {
        int[] b = within(what, 0, 2) ? bestChange() : null;
        return b == null ? NONE : b[what];
    }

    /** Rows as sets of signals; each entry of more is {lower, other, rows, depth}. */
    List<TreeSet<Integer>> rowSets;
    List<int[]> more;

    void share() {
        rowSets = new ArrayList<>();
        more = new ArrayList<>();
        for (int r = 0; r < now.checks; r++) {
            rowSets.add(new TreeSet<>());
            for (int p = 0; p < now.data; p++) {
                if ((now.columns.get(p) >> r) % 2 == 1) {
                    rowSets.get(r).add(p);
                }
            }
        }
        while (true) {
            int most = 1;
            int[] two = null;
            int signals = now.data + more.size();
            for (int a = 0; a < signals; a++) {
                for (int b = a + 1; b < signals; b++) {
                    int c = 0;
                    for (TreeSet<Integer> set : rowSets) {
                        c += set.contains(a) && set.contains(b) ? 1 : 0;
                    }
                    if (c > most) {
                        most = c;
                        two = new int[] {a, b};
                    }
                }
            }
            if (two == null) {
                return;
            }
            for (TreeSet<Integer> set : rowSets) {
                if (set.contains(two[0]) && set.contains(two[1])) {
                    set.remove(two[0]);
                    set.remove(two[1]);
                    set.add(signals);
                }
            }
            more.add(new int[] {two[0], two[1], most, Math.max(depth(two[0]), depth(two[1])) + 1});
        }
    }

    int depth(int signal) {
        return signal < now.data ? 0 : more.get(signal - now.data)[3];
    }

    int left(Set<Integer> row) {
        List<Integer> depths = new ArrayList<>();
        for (int s : row) {
            depths.add(depth(s));
        }
        if (depths.isEmpty()) {
            return 0;
        }
        for (int d = 0; depths.size() > 1; d++) {
            int here = java.util.Collections.frequency(depths, d);
            List<Integer> next = new ArrayList<>();
            for (int x : depths) {
                if (x != d) {
                    next.add(x);
                }
            }
            for (; here > 0; here -= 2) {
                next.add(d + 1);
            }
            depths = next;
        }
        return depths.get(0);
    }

    int gates(int what) {
        int plain = 0;
        for (int r = 0; r < now.checks; r++) {
            plain += wires(r) == 0 ? 0 : wires(r) - 1;
        }
        share();
        int with = more.size();
        int deepest = 0;
        for (TreeSet<Integer> set : rowSets) {
            with += set.isEmpty() ? 0 : set.size() - 1;
            deepest = Math.max(deepest, left(set));
        }
        return what == 0 ? plain : what == 1 ? with : what == 2 ? more.size() : what == 3 ? deepest : NONE;
    }

    int shared(int i, int what) {
        share();
        return i < 0 || i >= more.size() || !within(what, 0, 3) ? NONE : more.get(i)[what];
    }

    int[] chipCounts(World w, int chip) {
        int[] counts = new int[3];
        int from = chip * 4;
        int to = Math.min(w.n(), from + 4);
        for (int set = 1; set < power(to - from); set++) {
            boolean[] b = new boolean[w.n()];
            for (int p = from; p < to; p++) {
                b[p] = (set >> (p - from)) % 2 == 1;
            }
            counts[judged(readOf(w, b, new TreeSet<>()), new boolean[w.n()])]++;
        }
        return counts;
    }

    int allChips(World w, int what) {
        int c = 0;
        for (int chip = 0; chip * 4 < w.n(); chip++) {
            c += chipCounts(w, chip)[what];
        }
        return c;
    }

    int chip(int chip, int what) {
        if (!within(what, 0, 2) || chip < -1 || chip >= 0 && chip > (now.n() - 1) / 4) {
            return NONE;
        }
        return chip == -1 ? allChips(now, what) : chipCounts(now, chip)[what];
    }

    int exchange(int what) {
        if (!within(what, 0, 2)) {
            return NONE;
        }
        int least = allChips(now, 2);
        int[] best = null;
        for (int a = 0; a < now.data; a++) {
            for (int b = a + 1; b < now.data; b++) {
                World w = now.copy();
                java.util.Collections.swap(w.columns, a, b);
                int c = allChips(w, 2);
                if (c < least) {
                    least = c;
                    best = new int[] {a, b, c};
                }
            }
        }
        return best == null ? NONE : best[what];
    }

    int fewest(int data) {
        for (int c = 4; data >= 1 && data <= 200 && c <= 8; c++) {
            if (allColumns(c).size() >= data) {
                return c;
            }
        }
        return NONE;
    }

    int columns(int ones, int what) {
        if (!List.of(3, 5, 7).contains(ones) || !within(what, 0, 1)) {
            return NONE;
        }
        int c = 0;
        for (int x : allColumns(now.checks)) {
            c += ones(x) == ones && (what == 0 || !now.columns.contains(x)) ? 1 : 0;
        }
        return c;
    }

    int behindStorm(int seed, int n, int every) {
        World w = now.copy();
        w.stormBy(seed, n, every);
        return w.notMeant();
    }

    int would(int seed, int n, int every) {
        return within(seed, 0, 9999) && within(n, 0, 200) && within(every, 0, 50) ? behindStorm(seed, n, every) : NONE;
    }

    int worst(int n, int every, int what) {
        if (!within(n, 0, 100) || !within(every, 0, 50) || !within(what, 0, 1)) {
            return NONE;
        }
        int best = 0;
        for (int seed = 1; seed < 50; seed++) {
            if (behindStorm(seed, n, every) > behindStorm(best, n, every)) {
                best = seed;
            }
        }
        return what == 0 ? best : behindStorm(best, n, every);
    }

    int interval(int seed, int n) {
        if (!within(seed, 0, 9999) || !within(n, 1, 200)) {
            return NONE;
        }
        int r = 0;
        for (int every = 1; every <= 50; every++) {
            if (behindStorm(seed, n, every) == 0) {
                r = every;
            }
        }
        return r;
    }

    int tally(int what) {
        return within(what, 0, 7) ? now.tallies[what] : NONE;
    }

    int image(int box) {
        if (!within(box, 0, 1)) {
            return NONE;
        }
        boxes[box] = now.copy();
        return 16 - now.notMeant();
    }

    int back(int box) {
        if (!within(box, 0, 1) || boxes[box] == null) {
            return NONE;
        }
        now = boxes[box].copy();
        before.clear();
        after.clear();
        return 16 - now.notMeant();
    }

    int about(int what) {
        int unclean = 0;
        int wrong = 0;
        for (int w = 0; w < 16; w++) {
            unclean += syndrome(now, now.bits[w]) != 0 ? 1 : 0;
            wrong += now.asMeant(w) ? 0 : power(w);
        }
        switch (what) {
            case 0: return now.data;
            case 1: return now.checks;
            case 2: return now.pairs ? 1 : 0;
            case 3: return unclean;
            case 4: return wrong;
            case 5: return before.size();
            case 6: return after.size();
            case 7: return tape.size();
            default: return NONE;
        }
    }
}
