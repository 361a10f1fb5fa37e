import java.util.Arrays;

public final class OddColumns {
    public static final int NONE = -1;

    private static final int MAX_DATA = 24;
    private static final int MIN_DATA = 4;
    private static final int MAX_CHECKS = 8;
    private static final int MIN_CHECKS = 4;
    private static final int MAX_PLACES = 32;
    private static final int SYNDROMES = 256;
    private static final int WORDS = 16;
    private static final int CHIP_PLACES = 4;

    private static final int FIRST = 0;
    private static final int BALANCED = 1;
    private static final int PAIRED = 2;

    private static final int CLEAN = 0;
    private static final int MENDED_ONE = 1;
    private static final int MENDED_TWO = 2;
    private static final int DOUBLE = 3;
    private static final int ODD = 4;
    private static final int HEALED = 5;

    private static final int RIGHT = 0;
    private static final int TOLD = 1;
    private static final int WRONG = 2;

    private static final int TALLY_WRONG = 6;
    private static final int TALLY_TURNED = 7;
    private static final int TALLIES = 8;

    private static final int BOXES = 2;
    private static final int MAX_SEED = 9999;
    private static final int MAX_EVERY = 50;
    private static final int MAX_SLIPS = 200;
    private static final int WORST_SLIPS = 100;
    private static final int WORST_SEEDS = 50;

    private final Tape tape;
    private final Script script;
    private final Chooser chooser;
    private final Timeline timeline;
    private final State[] boxes;
    private final boolean[] boxIsFull;
    private final Reading read;
    private final Searcher searcher;
    private final Sharing sharing;
    private final Code draft;
    private final Words trialWords;
    private int faultKind;
    private int faultPlace;

    public OddColumns() {
        script = new Script();
        tape = script.tape;
        chooser = script.chooser;
        timeline = new Timeline();
        boxes = new State[] {new State(), new State()};
        boxIsFull = new boolean[BOXES];
        read = new Reading();
        searcher = new Searcher();
        sharing = new Sharing();
        draft = new Code();
        trialWords = new Words();
        faultKind = 0;
        faultPlace = NONE;
        chooser.chooseColumns(draft, FIRST);
        timeline.now().code.copyFrom(draft);
    }

    public int feed(int a, int b, int c, int d, int e) {
        if (!tape.hasRoomForFive()) {
            return NONE;
        }
        tape.put(a);
        tape.put(b);
        tape.put(c);
        tape.put(d);
        tape.put(e);
        return tape.length;
    }

    public int end(int n) {
        if (n < 0 || n > tape.length) {
            return NONE;
        }
        tape.length = n;
        return n;
    }

    public int code() {
        boolean good = script.parse();
        tape.length = 0;
        faultKind = script.faultKind;
        faultPlace = script.faultPlace;
        if (!good) {
            return NONE;
        }
        timeline.forget();
        State now = timeline.now();
        now.code.copyFrom(script.draft);
        now.words.beginWith(now.code, script.toldData);
        boxIsFull[0] = false;
        boxIsFull[1] = false;
        return now.code.places();
    }

    public int fault(int what) {
        switch (what) {
            case 0: return faultKind;
            case 1: return faultPlace;
            default: return NONE;
        }
    }

    public boolean write(int word, int data) {
        if (!isWord(word) || !timeline.now().code.isDataValue(data)) {
            return false;
        }
        State next = timeline.beginAct();
        next.words.writeMeant(next.code, word, data);
        return true;
    }

    public int part(int word, int mask, int data) {
        State now = timeline.now();
        if (!isWord(word) || !now.code.isDataValue(mask) || !now.code.isDataValue(data)) {
            return NONE;
        }
        now.words.readWord(now.code, word, read);
        if (read.isTold()) {
            return read.kind;
        }
        State next = timeline.beginAct();
        next.words.writePart(next.code, word, mask, data, read);
        return read.kind;
    }

    public int mend(int word) {
        if (!isWord(word)) {
            return NONE;
        }
        State next = timeline.beginAct();
        return next.words.mendWord(next.code, word, read);
    }

    public int scrub() {
        State next = timeline.beginAct();
        return next.words.mendAll(next.code, read);
    }

    public int slip(int word, int place) {
        if (!isWord(word) || !timeline.now().code.isPlace(place)) {
            return NONE;
        }
        State next = timeline.beginAct();
        next.words.slipPlaces(next.code, word, 1 << place);
        return next.words.bits[word] >>> place & 1;
    }

    public boolean burst(int word, int place, int n) {
        if (!isWord(word) || n < 1 || n > 8) {
            return false;
        }
        if (place < 0 || place > timeline.now().code.places() - n) {
            return false;
        }
        State next = timeline.beginAct();
        next.words.slipPlaces(next.code, word, (1 << n) - 1 << place);
        return true;
    }

    public int storm(int seed, int n, int every) {
        if (n < 1 || !isStorm(seed, n, every)) {
            return NONE;
        }
        State next = timeline.beginAct();
        next.words.runStorm(next.code, seed, n, every, read);
        return WORDS - next.words.countAsMeant();
    }

    public boolean stick(int word, int place, int v) {
        State now = timeline.now();
        if (!isWord(word) || !now.code.isPlace(place) || v < 0 || v > 1) {
            return false;
        }
        int stuckNow = now.words.stuck[word];
        if ((stuckNow >>> place & 1) == 1 || Integer.bitCount(stuckNow) >= 2) {
            return false;
        }
        State next = timeline.beginAct();
        next.words.stickPlace(next.code, word, place, v);
        return true;
    }

    public int free(int word) {
        if (!isWord(word) || timeline.now().words.stuck[word] == 0) {
            return NONE;
        }
        State next = timeline.beginAct();
        int were = Integer.bitCount(next.words.stuck[word]);
        next.words.stuck[word] = 0;
        return were;
    }

    public boolean column(int place, int column) {
        Code code = timeline.now().code;
        if (!code.isDataPlace(place) || !code.isDataColumn(column) || code.placeWith(column) != NONE) {
            return false;
        }
        State next = timeline.beginAct();
        next.code.giveColumn(place, column);
        next.words.writeAllAnew(next.code);
        return true;
    }

    public boolean swap(int place, int other) {
        Code code = timeline.now().code;
        if (!code.isDataPlace(place) || !code.isDataPlace(other) || place == other) {
            return false;
        }
        State next = timeline.beginAct();
        next.code.exchangeColumns(place, other);
        next.words.writeAllAnew(next.code);
        return true;
    }

    public boolean way(int way) {
        if (way < FIRST || way > PAIRED) {
            return false;
        }
        draft.copyFrom(timeline.now().code);
        if (!chooser.chooseColumns(draft, way)) {
            return false;
        }
        State next = timeline.beginAct();
        if (!next.code.hasColumnsOf(draft)) {
            next.code.copyFrom(draft);
            next.words.writeAllAnew(next.code);
        }
        return true;
    }

    public boolean pairs(boolean are) {
        if (timeline.now().code.pairs == are) {
            return false;
        }
        timeline.beginAct().code.pairs = are;
        return true;
    }

    public int better() {
        searcher.seekChange(timeline.now().code);
        if (searcher.bestPlace == NONE) {
            return NONE;
        }
        State next = timeline.beginAct();
        next.code.giveColumn(searcher.bestPlace, searcher.bestOther);
        next.words.writeAllAnew(next.code);
        return searcher.bestCount;
    }

    public boolean undo() {
        return timeline.stepBack();
    }

    public boolean redo() {
        return timeline.stepOn();
    }

    public int columnOf(int place) {
        Code code = timeline.now().code;
        return code.isPlace(place) ? code.columns[place] : NONE;
    }

    public int row(int row, int what) {
        Code code = timeline.now().code;
        if (row < 0 || row >= code.checks) {
            return NONE;
        }
        switch (what) {
            case 0: return code.wiresOf(row);
            case 1: return depthOfGates(code.wiresOf(row));
            default: return NONE;
        }
    }

    public int rows(int what) {
        if (what < 0 || what > 2) {
            return NONE;
        }
        Code code = timeline.now().code;
        int sum = 0;
        int most = 0;
        int least = MAX_DATA;
        for (int row = 0; row < code.checks; row++) {
            int wires = code.wiresOf(row);
            sum += wires;
            most = Math.max(most, wires);
            least = Math.min(least, wires);
        }
        if (what == 0) {
            return sum;
        }
        return what == 1 ? most - least : depthOfGates(most);
    }

    public int word(int word, int what) {
        if (!isWord(word)) {
            return NONE;
        }
        Code code = timeline.now().code;
        Words words = timeline.now().words;
        switch (what) {
            case 0: return words.bits[word] & code.dataMask();
            case 1: return words.bits[word] >>> code.data;
            case 2: return words.syndromes[word];
            case 3: return words.meant[word] & code.dataMask();
            case 4: return Integer.bitCount(words.bits[word] ^ words.meant[word]);
            default: return NONE;
        }
    }

    public int reading(int word, int what) {
        if (!isWord(word) || what < 0 || what > 3) {
            return NONE;
        }
        Code code = timeline.now().code;
        Words words = timeline.now().words;
        words.readWord(code, word, read);
        if (what == 0) {
            return read.kind;
        }
        if (what == 1) {
            return read.place;
        }
        if (read.isTold()) {
            return NONE;
        }
        int came = words.bits[word] ^ read.turned;
        if (what == 2) {
            return came & code.dataMask();
        }
        return came == words.meant[word] ? 1 : 0;
    }

    public int stuck(int word, int i) {
        if (!isWord(word) || i < 0 || i > 1) {
            return NONE;
        }
        int mask = timeline.now().words.stuck[word];
        int lower = lowestPlace(mask);
        if (i == 0 || lower == NONE) {
            return lower;
        }
        return lowestPlace(mask & ~(1 << lower));
    }

    public int stands(int word, int what) {
        if (!isWord(word) || what < RIGHT || what > WRONG) {
            return NONE;
        }
        State now = timeline.now();
        return now.words.countStands(now.code, word, what, read);
    }

    public int find(int syndrome, int what) {
        Code code = timeline.now().code;
        switch (what) {
            case 0: return code.placeWith(syndrome);
            case 1: return code.pairWith(syndrome);
            default: return NONE;
        }
    }

    public int threes(int what) {
        Code code = timeline.now().code;
        switch (what) {
            case 0: return searcher.countMissed(code, code.places());
            case 1: return searcher.countMissed(code, code.data);
            case 2: return threesOf(code.places());
            default: return NONE;
        }
    }

    public int fours() {
        return searcher.countUnseen(timeline.now().code);
    }

    public int twos(int what) {
        Code code = timeline.now().code;
        switch (what) {
            case 0: return searcher.countMistaken(code);
            case 1: return searcher.countLoneXors(code);
            case 2: return searcher.countLoneXors(code) == code.places() - 1 ? 1 : 0;
            default: return NONE;
        }
    }

    public int change(int what) {
        if (what < 0 || what > 2) {
            return NONE;
        }
        searcher.seekChange(timeline.now().code);
        return searcher.best(what);
    }

    public int gates(int what) {
        Code code = timeline.now().code;
        if (what < 0 || what > 3) {
            return NONE;
        }
        if (what == 0) {
            return sharing.countPlainGates(code);
        }
        sharing.share(code);
        if (what == 1) {
            return sharing.countGates();
        }
        return what == 2 ? sharing.countMore() : sharing.deepestRow();
    }

    public int shared(int i, int what) {
        if (i < 0 || what < 0 || what > 3) {
            return NONE;
        }
        sharing.share(timeline.now().code);
        return sharing.told(i, what);
    }

    public int chip(int chip, int what) {
        Code code = timeline.now().code;
        if (what < RIGHT || what > WRONG || chip < NONE || chip >= code.chips()) {
            return NONE;
        }
        return chip == NONE ? searcher.countAllSets(code, what) : searcher.countSets(code, chip, what);
    }

    public int exchange(int what) {
        if (what < 0 || what > 2) {
            return NONE;
        }
        searcher.seekExchange(timeline.now().code);
        return searcher.best(what);
    }

    public int fewest(int data) {
        if (data < 1 || data > 200) {
            return NONE;
        }
        for (int checks = MIN_CHECKS; checks <= MAX_CHECKS; checks++) {
            if (dataColumns(checks) >= data) {
                return checks;
            }
        }
        return NONE;
    }

    public int columns(int ones, int what) {
        if (ones != 3 && ones != 5 && ones != 7 || what < 0 || what > 1) {
            return NONE;
        }
        return timeline.now().code.countColumns(ones, what == 1);
    }

    public int would(int seed, int n, int every) {
        return isStorm(seed, n, every) ? notMeantBehind(seed, n, every) : NONE;
    }

    public int worst(int n, int every, int what) {
        if (n > WORST_SLIPS || !isStorm(0, n, every) || what < 0 || what > 1) {
            return NONE;
        }
        int worstSeed = NONE;
        int most = NONE;
        for (int seed = 0; seed < WORST_SEEDS; seed++) {
            int count = notMeantBehind(seed, n, every);
            if (count > most) {
                most = count;
                worstSeed = seed;
            }
        }
        return what == 0 ? worstSeed : most;
    }

    public int interval(int seed, int n) {
        if (n < 1 || !isStorm(seed, n, 0)) {
            return NONE;
        }
        for (int every = MAX_EVERY; every >= 1; every--) {
            if (notMeantBehind(seed, n, every) == 0) {
                return every;
            }
        }
        return 0;
    }

    public int tally(int what) {
        return what >= 0 && what < TALLIES ? timeline.now().words.tallies[what] : NONE;
    }

    public int image(int box) {
        if (box < 0 || box >= BOXES) {
            return NONE;
        }
        boxes[box].copyFrom(timeline.now());
        boxIsFull[box] = true;
        return timeline.now().words.countAsMeant();
    }

    public int back(int box) {
        if (box < 0 || box >= BOXES || !boxIsFull[box]) {
            return NONE;
        }
        timeline.forget();
        timeline.now().copyFrom(boxes[box]);
        return timeline.now().words.countAsMeant();
    }

    public int about(int what) {
        State now = timeline.now();
        switch (what) {
            case 0: return now.code.data;
            case 1: return now.code.checks;
            case 2: return now.code.pairs ? 1 : 0;
            case 3: return now.words.countUnclean();
            case 4: return now.words.notMeantAsBits();
            case 5: return timeline.at;
            case 6: return timeline.last - timeline.at;
            case 7: return tape.length;
            default: return NONE;
        }
    }

    private int notMeantBehind(int seed, int n, int every) {
        State now = timeline.now();
        trialWords.copyFrom(now.words);
        trialWords.runStorm(now.code, seed, n, every, read);
        return WORDS - trialWords.countAsMeant();
    }

    private static boolean isStorm(int seed, int n, int every) {
        return seed >= 0 && seed <= MAX_SEED && n >= 0 && n <= MAX_SLIPS && every >= 0 && every <= MAX_EVERY;
    }

    private static boolean isWord(int word) {
        return word >= 0 && word < WORDS;
    }

    private static int lowestPlace(int mask) {
        for (int place = 0; place < MAX_PLACES; place++) {
            if ((mask >>> place & 1) == 1) {
                return place;
            }
        }
        return NONE;
    }

    private static int depthOfGates(int wires) {
        if (wires < 1) {
            return NONE;
        }
        int depth = 0;
        for (int reach = 1; reach < wires && depth < MAX_PLACES; reach *= 2) {
            depth++;
        }
        return depth;
    }

    private static int threesOf(int places) {
        return places * (places - 1) * (places - 2) / 6;
    }

    // Half of all numbers are odd in their ones; those with a single one are the checks' own.
    private static int dataColumns(int checks) {
        return (1 << checks - 1) - checks;
    }

    /** The bytes that came and are not yet a code. */
    private static final class Tape {
        private static final int ROOM = 600;
        private static final int FIVE_NUMBERS = 20;
        final int[] bytes = new int[ROOM];
        int length;

        boolean hasRoomForFive() {
            return length <= ROOM - FIVE_NUMBERS;
        }

        void put(int number) {
            for (int shift = 24; shift >= 0 && length < ROOM; shift -= 8) {
                bytes[length] = number >>> shift & 255;
                length++;
            }
        }

        int byteAt(int i) {
            return i >= 0 && i < length && i < ROOM ? bytes[i] : NONE;
        }
    }

    /** What the places' columns are, and which places a syndrome belongs to. */
    private static final class Code {
        int data = 8;
        int checks = 5;
        boolean pairs;
        final int[] columns = new int[MAX_PLACES];
        private final int[] placeOf = new int[SYNDROMES];
        private final int[] pairOf = new int[SYNDROMES];

        int places() {
            return data + checks;
        }

        int chips() {
            return (places() + CHIP_PLACES - 1) / CHIP_PLACES;
        }

        boolean isPlace(int place) {
            return place >= 0 && place < places();
        }

        boolean isDataPlace(int place) {
            return place >= 0 && place < data;
        }

        int dataMask() {
            return (1 << data) - 1;
        }

        boolean isDataValue(int value) {
            return value >= 0 && value <= dataMask();
        }

        boolean isDataColumn(int value) {
            int ones = Integer.bitCount(value);
            return value > 0 && value < 1 << checks && ones >= 3 && ones % 2 == 1;
        }

        int placeWith(int column) {
            return column >= 0 && column < SYNDROMES ? placeOf[column] : NONE;
        }

        int pairWith(int xor) {
            return xor >= 0 && xor < SYNDROMES ? pairOf[xor] : NONE;
        }

        void resetSize() {
            data = 8;
            checks = 5;
            pairs = false;
        }

        void copyFrom(Code from) {
            data = from.data;
            checks = from.checks;
            pairs = from.pairs;
            System.arraycopy(from.columns, 0, columns, 0, MAX_PLACES);
            System.arraycopy(from.placeOf, 0, placeOf, 0, SYNDROMES);
            System.arraycopy(from.pairOf, 0, pairOf, 0, SYNDROMES);
        }

        boolean hasColumnsOf(Code other) {
            for (int place = 0; place < data; place++) {
                if (columns[place] != other.columns[place]) {
                    return false;
                }
            }
            return true;
        }

        void giveColumn(int place, int column) {
            columns[place] = column;
            lookUpAnew();
        }

        void exchangeColumns(int place, int other) {
            int kept = columns[place];
            columns[place] = columns[other];
            columns[other] = kept;
            lookUpAnew();
        }

        void placeChecks() {
            for (int check = 0; check < checks; check++) {
                columns[data + check] = 1 << check;
            }
        }

        // From the last place down, so that of like pairs the first one stays.
        void lookUpAnew() {
            Arrays.fill(placeOf, NONE);
            Arrays.fill(pairOf, NONE);
            for (int place = places() - 1; place >= 0; place--) {
                placeOf[columns[place] & SYNDROMES - 1] = place;
                if (place > 0) {
                    pairOf[(columns[place - 1] ^ columns[place]) & SYNDROMES - 1] = place - 1;
                }
            }
        }

        int syndromeOf(int bits) {
            int syndrome = 0;
            int places = places();
            for (int place = 0; place < places; place++) {
                if ((bits >>> place & 1) == 1) {
                    syndrome ^= columns[place];
                }
            }
            return syndrome;
        }

        // With no check set, the syndrome of the data is just what the checks have to be.
        int wholeOf(int value) {
            int alone = value & dataMask();
            return alone | syndromeOf(alone) << data;
        }

        int wiresOf(int row) {
            int wires = 0;
            for (int place = 0; place < data; place++) {
                wires += columns[place] >>> row & 1;
            }
            return wires;
        }

        int countColumns(int ones, boolean freeOnly) {
            int count = 0;
            for (int column = 0; column < 1 << checks; column++) {
                if (Integer.bitCount(column) == ones && !(freeOnly && placeWith(column) != NONE)) {
                    count++;
                }
            }
            return count;
        }
    }

    /** What was read of a word: its kind, the place told, and all places turned by it. */
    private static final class Reading {
        int kind;
        int place = NONE;
        int turned;

        boolean isTold() {
            return kind == DOUBLE || kind == ODD;
        }

        void read(Code code, int syndrome, int stuck) {
            settle(CLEAN, NONE, 0);
            if (syndrome == 0) {
                return;
            }
            int alone = Integer.bitCount(stuck) == 1 ? lowestPlace(stuck) : NONE;
            if (stuck != 0 && readByStuck(code, syndrome, stuck)) {
                return;
            }
            if (alone != NONE && readBesideStuck(code, syndrome, alone)) {
                return;
            }
            int one = alone == NONE ? code.placeWith(syndrome) : NONE;
            int first = code.pairs ? code.pairWith(syndrome) : NONE;
            if (one != NONE) {
                settle(MENDED_ONE, one, 1 << one);
            } else if (first != NONE) {
                settle(MENDED_TWO, first, 3 << first);
            } else {
                settle(Integer.bitCount(syndrome) % 2 == 0 ? DOUBLE : ODD, NONE, 0);
            }
        }

        private boolean readByStuck(Code code, int syndrome, int stuck) {
            int lower = lowestPlace(stuck);
            if (lower == NONE) {
                return false;
            }
            int lowerColumn = code.columns[lower];
            if (syndrome == lowerColumn) {
                return settle(HEALED, NONE, 1 << lower);
            }
            int other = lowestPlace(stuck & ~(1 << lower));
            if (other == NONE) {
                return false;
            }
            int otherColumn = code.columns[other];
            if (syndrome == otherColumn) {
                return settle(HEALED, NONE, 1 << other);
            }
            return syndrome == (lowerColumn ^ otherColumn) && settle(HEALED, NONE, stuck);
        }

        private boolean readBesideStuck(Code code, int syndrome, int alone) {
            int asItIs = code.placeWith(syndrome);
            if (asItIs != NONE) {
                return settle(MENDED_ONE, asItIs, 1 << asItIs);
            }
            int turnedToo = code.placeWith(syndrome ^ code.columns[alone]);
            return turnedToo != NONE && settle(HEALED, turnedToo, 1 << turnedToo | 1 << alone);
        }

        private boolean settle(int newKind, int newPlace, int newTurned) {
            kind = newKind;
            place = newPlace;
            turned = newTurned;
            return true;
        }

        // Of a word that is off from what is meant by these places.
        int judge(int off) {
            if (isTold()) {
                return TOLD;
            }
            return turned == off ? RIGHT : WRONG;
        }
    }

    /** The sixteen words: as they are, as they are meant, what is stuck, and the tallies. */
    private static final class Words {
        final int[] bits = new int[WORDS];
        final int[] meant = new int[WORDS];
        final int[] stuck = new int[WORDS];
        final int[] syndromes = new int[WORDS];
        final int[] tallies = new int[TALLIES];

        void copyFrom(Words from) {
            System.arraycopy(from.bits, 0, bits, 0, WORDS);
            System.arraycopy(from.meant, 0, meant, 0, WORDS);
            System.arraycopy(from.stuck, 0, stuck, 0, WORDS);
            System.arraycopy(from.syndromes, 0, syndromes, 0, WORDS);
            System.arraycopy(from.tallies, 0, tallies, 0, TALLIES);
        }

        void beginWith(Code code, int[] values) {
            Arrays.fill(stuck, 0);
            Arrays.fill(tallies, 0);
            for (int word = 0; word < WORDS && word < values.length; word++) {
                writeMeant(code, word, values[word]);
            }
        }

        void writeMeant(Code code, int word, int value) {
            meant[word] = code.wholeOf(value);
            putBits(code, word, meant[word]);
        }

        void writeAllAnew(Code code) {
            for (int word = 0; word < WORDS; word++) {
                writeMeant(code, word, meant[word]);
            }
        }

        void writePart(Code code, int word, int mask, int value, Reading read) {
            countReading(word, read);
            int others = bits[word] ^ read.turned;
            meant[word] = code.wholeOf(meant[word] & ~mask | value & mask);
            putBits(code, word, code.wholeOf(others & ~mask | value & mask));
        }

        private void putBits(Code code, int word, int whole) {
            int held = stuck[word];
            bits[word] = whole & ~held | bits[word] & held;
            syndromes[word] = code.syndromeOf(bits[word]);
        }

        // The places of a mask are turned, but for stuck ones: how many were.
        private int turnPlaces(Code code, int word, int mask) {
            int turned = mask & ~stuck[word];
            if (turned != 0) {
                bits[word] ^= turned;
                syndromes[word] ^= code.syndromeOf(turned);
            }
            return Integer.bitCount(turned);
        }

        void slipPlaces(Code code, int word, int mask) {
            tallies[TALLY_TURNED] += turnPlaces(code, word, mask);
        }

        void stickPlace(Code code, int word, int place, int v) {
            if ((bits[word] >>> place & 1) != v) {
                turnPlaces(code, word, 1 << place);
            }
            stuck[word] |= 1 << place;
        }

        void readWord(Code code, int word, Reading read) {
            read.read(code, syndromes[word], stuck[word]);
        }

        private void countReading(int word, Reading read) {
            tallies[read.kind]++;
            if (read.judge(bits[word] ^ meant[word]) == WRONG) {
                tallies[TALLY_WRONG]++;
            }
        }

        int mendWord(Code code, int word, Reading read) {
            read.read(code, syndromes[word], stuck[word]);
            countReading(word, read);
            turnPlaces(code, word, read.turned);
            return read.kind;
        }

        int mendAll(Code code, Reading read) {
            int count = 0;
            for (int word = 0; word < WORDS; word++) {
                // A storm scrubs thousands of clean words: those need no reading.
                if (syndromes[word] == 0) {
                    countClean(word);
                } else {
                    mendWord(code, word, read);
                    count += read.isTold() ? 0 : 1;
                }
            }
            return count;
        }

        private void countClean(int word) {
            tallies[CLEAN]++;
            if (bits[word] != meant[word]) {
                tallies[TALLY_WRONG]++;
            }
        }

        void runStorm(Code code, int seed, int n, int every, Reading read) {
            int places = code.places();
            int draw = seed;
            for (int i = 1; i <= n && places > 0; i++) {
                draw = nextDraw(draw);
                int word = draw % WORDS;
                draw = nextDraw(draw);
                slipPlaces(code, word, 1 << draw % places);
                if (every > 0 && i % every == 0) {
                    mendAll(code, read);
                }
            }
        }

        private static int nextDraw(int draw) {
            return (draw * 137 + 71) % 10007;
        }

        int countStands(Code code, int word, int what, Reading read) {
            int held = stuck[word];
            int offByStuck = (bits[word] ^ meant[word]) & held;
            int count = 0;
            for (int place = 0; place < code.places(); place++) {
                if ((held >>> place & 1) == 0) {
                    int off = offByStuck | 1 << place;
                    read.read(code, code.syndromeOf(off), held);
                    count += read.judge(off) == what ? 1 : 0;
                }
            }
            return count;
        }

        int notMeantAsBits() {
            int mask = 0;
            for (int word = 0; word < WORDS; word++) {
                if (bits[word] != meant[word]) {
                    mask |= 1 << word;
                }
            }
            return mask;
        }

        int countAsMeant() {
            return WORDS - Integer.bitCount(notMeantAsBits());
        }

        int countUnclean() {
            int count = 0;
            for (int word = 0; word < WORDS; word++) {
                count += syndromes[word] != 0 ? 1 : 0;
            }
            return count;
        }
    }

    /** All that an act can change. */
    private static final class State {
        final Code code = new Code();
        final Words words = new Words();

        void copyFrom(State from) {
            code.copyFrom(from.code);
            words.copyFrom(from.words);
        }
    }

    /** The states ahead of and behind the latest acts; one more than the acts that are kept. */
    private static final class Timeline {
        private static final int KEPT = 12;
        private final State[] states;
        int at;
        int last;

        Timeline() {
            states = new State[KEPT + 1];
            for (int i = 0; i <= KEPT; i++) {
                states[i] = new State();
            }
        }

        State now() {
            return states[at];
        }

        State beginAct() {
            if (at >= KEPT) {
                dropOldest();
            }
            states[at + 1].copyFrom(states[at]);
            at++;
            last = at;
            return states[at];
        }

        private void dropOldest() {
            State oldest = states[0];
            for (int i = 0; i < KEPT; i++) {
                states[i] = states[i + 1];
            }
            states[KEPT] = oldest;
            at = KEPT - 1;
        }

        boolean stepBack() {
            if (at <= 0) {
                return false;
            }
            at--;
            return true;
        }

        boolean stepOn() {
            if (at >= last) {
                return false;
            }
            at++;
            return true;
        }

        void forget() {
            State kept = states[at];
            states[at] = states[0];
            states[0] = kept;
            at = 0;
            last = 0;
        }
    }

    /** Chooses the columns of data by a way. */
    private static final class Chooser {
        private static final int MOST_TRIED = 20000;
        // Far above what so many tries, taken columns passed over and ways back can need.
        private static final int MOST_STEPS = 2000000;
        private final int[] order = new int[SYNDROMES];
        private int count;
        private final boolean[] taken = new boolean[SYNDROMES];
        private final boolean[] joined = new boolean[SYNDROMES];
        private final int[] nextTry = new int[MAX_DATA];
        private final int[] wires = new int[MAX_CHECKS];

        /** The code's size is told already; if none can be chosen, its columns are of no use. */
        boolean chooseColumns(Code code, int way) {
            listInOrder(code.checks);
            if (count < code.data) {
                return false;
            }
            freeAll();
            code.placeChecks();
            if (way == PAIRED) {
                if (!choosePaired(code)) {
                    return false;
                }
            } else if (way == BALANCED) {
                chooseBalanced(code);
            } else {
                System.arraycopy(order, 0, code.columns, 0, code.data);
            }
            code.lookUpAnew();
            return true;
        }

        private void freeAll() {
            for (int i = 0; i < SYNDROMES; i++) {
                taken[i] = false;
                joined[i] = false;
            }
        }

        private void listInOrder(int checks) {
            count = 0;
            for (int ones = 3; ones <= checks; ones += 2) {
                for (int column = 0; column < 1 << checks; column++) {
                    if (Integer.bitCount(column) == ones) {
                        order[count] = column;
                        count++;
                    }
                }
            }
        }

        private void chooseBalanced(Code code) {
            Arrays.fill(wires, 0);
            for (int place = 0; place < code.data; place++) {
                int column = mostBalanced();
                code.columns[place] = column;
                taken[column] = true;
                for (int row = 0; row < MAX_CHECKS; row++) {
                    wires[row] += column >>> row & 1;
                }
            }
        }

        private int mostBalanced() {
            int best = 0;
            int least = 0;
            for (int i = 0; i < count; i++) {
                int column = order[i];
                if (taken[column]) {
                    continue;
                }
                // The order goes by ones first: behind the fewest there is nothing to look for.
                if (best != 0 && Integer.bitCount(column) > Integer.bitCount(best)) {
                    break;
                }
                int greatest = greatestWith(column);
                if (best == 0 || greatest < least) {
                    best = column;
                    least = greatest;
                }
            }
            return best;
        }

        private int greatestWith(int column) {
            int greatest = 0;
            for (int row = 0; row < MAX_CHECKS; row++) {
                greatest = Math.max(greatest, wires[row] + (column >>> row & 1));
            }
            return greatest;
        }

        private boolean choosePaired(Code code) {
            joinChecks(code.checks);
            int place = 0;
            int tried = 0;
            nextTry[0] = 0;
            for (int step = 0; step < MOST_STEPS; step++) {
                if (nextTry[place] >= count) {
                    if (place == 0) {
                        return false;
                    }
                    place--;
                    takeAway(code, place);
                    continue;
                }
                int column = order[nextTry[place]];
                nextTry[place]++;
                if (taken[column]) {
                    continue;
                }
                tried++;
                if (tried > MOST_TRIED) {
                    return false;
                }
                if (fits(code, place, column)) {
                    put(code, place, column);
                    place++;
                    if (place >= code.data || place >= MAX_DATA) {
                        return true;
                    }
                    nextTry[place] = 0;
                }
            }
            return false;
        }

        private void joinChecks(int checks) {
            for (int check = 1; check < checks; check++) {
                joined[3 << check - 1] = true;
            }
        }

        private boolean fits(Code code, int place, int column) {
            if (place > 0 && joined[code.columns[place - 1] ^ column]) {
                return false;
            }
            // Behind the last place of data stands the first check, whose column is 1.
            return place < code.data - 1 || !joined[column ^ 1];
        }

        private void put(Code code, int place, int column) {
            code.columns[place] = column;
            taken[column] = true;
            if (place > 0) {
                joined[code.columns[place - 1] ^ column] = true;
            }
        }

        private void takeAway(Code code, int place) {
            int column = code.columns[place];
            taken[column] = false;
            if (place > 0) {
                joined[code.columns[place - 1] ^ column] = false;
            }
        }
    }

    /** Reads the tape as a code, token by token, up to its first fault. */
    private static final class Script {
        private static final int AT_END = 0;
        private static final int AT_NAME = 1;
        private static final int AT_NUMBER = 2;
        private static final int AT_SIGN = 3;
        private static final int AT_NOTHING = 4;

        private static final int WANTS_LINE = 0;
        private static final int WANTS_SIGN = 1;
        private static final int WANTS_DATA = 2;
        private static final int WANTS_CHECKS = 3;
        private static final int WANTS_WAY = 4;
        private static final int WANTS_PLACE = 5;
        private static final int WANTS_COLUMN = 6;
        private static final int WANTS_WORD = 7;
        private static final int WANTS_VALUE = 8;

        // Above every number that can be, and ten times it is an int still.
        private static final int TOO_GREAT = 100000000;

        final Tape tape = new Tape();
        final Chooser chooser = new Chooser();
        final Code draft = new Code();
        final int[] toldData = new int[WORDS];
        int faultKind;
        int faultPlace;
        private int at;
        private int tokenStart;
        private int token;
        private int number;
        private int wants;
        private int chosenWay;
        private int toldLines;
        private boolean chosen;
        private int lineSubject;

        boolean parse() {
            reset();
            for (int i = 0; i <= Tape.ROOM && faultKind == 0; i++) {
                nextToken();
                if (endsHead()) {
                    chosen = chooser.chooseColumns(draft, chosenWay);
                    if (!chosen) {
                        fail(4);
                        break;
                    }
                }
                if (token == AT_END) {
                    if (wants != WANTS_LINE) {
                        fail(1);
                    }
                    break;
                }
                takeToken();
            }
            return faultKind == 0;
        }

        // With the first line of column or word, or the end, all is told that columns are chosen by.
        private boolean endsHead() {
            return !chosen && wants == WANTS_LINE && (token == AT_END || tokenIs("column") || tokenIs("word"));
        }

        private void reset() {
            draft.resetSize();
            Arrays.fill(toldData, 0);
            faultKind = 0;
            faultPlace = NONE;
            at = 0;
            wants = WANTS_LINE;
            chosenWay = FIRST;
            toldLines = 0;
            chosen = false;
        }

        private void nextToken() {
            while (at < tape.length && isBlank(tape.byteAt(at))) {
                at++;
            }
            tokenStart = at;
            int sign = tape.byteAt(at);
            if (sign == NONE) {
                token = AT_END;
            } else if (isLetter(sign)) {
                token = AT_NAME;
                while (at < tape.length && isLetter(tape.byteAt(at))) {
                    at++;
                }
            } else if (isDigit(sign)) {
                token = AT_NUMBER;
                takeDigits();
            } else {
                token = sign == ';' ? AT_SIGN : AT_NOTHING;
                at++;
            }
        }

        private void takeDigits() {
            number = 0;
            while (at < tape.length && isDigit(tape.byteAt(at))) {
                number = Math.min(TOO_GREAT, number * 10 + tape.byteAt(at) - '0');
                at++;
            }
        }

        private static boolean isBlank(int sign) {
            return sign == 32 || sign == 10;
        }

        private static boolean isLetter(int sign) {
            return sign >= 'a' && sign <= 'z';
        }

        private static boolean isDigit(int sign) {
            return sign >= '0' && sign <= '9';
        }

        private boolean tokenIs(String name) {
            if (token != AT_NAME || at - tokenStart != name.length()) {
                return false;
            }
            for (int i = 0; i < name.length(); i++) {
                if (tape.byteAt(tokenStart + i) != name.charAt(i)) {
                    return false;
                }
            }
            return true;
        }

        private void fail(int kind) {
            faultKind = kind;
            faultPlace = tokenStart;
        }

        private void takeToken() {
            switch (wants) {
                case WANTS_LINE: takeLine(); break;
                case WANTS_SIGN: takeSign(); break;
                case WANTS_WAY: takeWay(); break;
                case WANTS_DATA:
                    if (isNumberWithin(MIN_DATA, MAX_DATA, WANTS_SIGN)) {
                        draft.data = number;
                    }
                    break;
                case WANTS_CHECKS:
                    if (isNumberWithin(MIN_CHECKS, MAX_CHECKS, WANTS_SIGN)) {
                        draft.checks = number;
                    }
                    break;
                case WANTS_PLACE:
                    if (isNumberWithin(0, draft.data - 1, WANTS_COLUMN)) {
                        lineSubject = number;
                    }
                    break;
                case WANTS_COLUMN:
                    if (isNumberWithin(0, SYNDROMES - 1, WANTS_SIGN)) {
                        takeColumn();
                    }
                    break;
                case WANTS_WORD:
                    if (isNumberWithin(0, WORDS - 1, WANTS_VALUE)) {
                        lineSubject = number;
                    }
                    break;
                default:
                    if (isNumberWithin(0, draft.dataMask(), WANTS_SIGN)) {
                        toldData[lineSubject] = number;
                    }
                    break;
            }
        }

        private void takeLine() {
            if (tokenIs("data")) {
                tellOnce(1, WANTS_DATA);
            } else if (tokenIs("checks")) {
                tellOnce(2, WANTS_CHECKS);
            } else if (tokenIs("way")) {
                tellOnce(4, WANTS_WAY);
            } else if (tokenIs("pairs")) {
                tellOnce(8, WANTS_SIGN);
                draft.pairs = true;
            } else if (tokenIs("column")) {
                wants = WANTS_PLACE;
            } else if (tokenIs("word")) {
                wants = WANTS_WORD;
            } else {
                fail(1);
            }
        }

        private void tellOnce(int line, int wantsNext) {
            if (chosen || (toldLines & line) != 0) {
                fail(3);
                return;
            }
            toldLines |= line;
            wants = wantsNext;
        }

        private void takeSign() {
            if (token == AT_SIGN) {
                wants = WANTS_LINE;
            } else {
                fail(1);
            }
        }

        private void takeWay() {
            wants = WANTS_SIGN;
            if (tokenIs("first")) {
                chosenWay = FIRST;
            } else if (tokenIs("balanced")) {
                chosenWay = BALANCED;
            } else if (tokenIs("paired")) {
                chosenWay = PAIRED;
            } else {
                fail(1);
            }
        }

        private boolean isNumberWithin(int least, int most, int wantsNext) {
            if (token != AT_NUMBER) {
                fail(1);
                return false;
            }
            if (number < least || number > most) {
                fail(2);
                return false;
            }
            wants = wantsNext;
            return true;
        }

        private void takeColumn() {
            int holder = draft.placeWith(number);
            if (!draft.isDataColumn(number) || holder != NONE && holder != lineSubject) {
                fail(2);
                return;
            }
            draft.giveColumn(lineSubject, number);
        }
    }

    /** Goes through twos, threes, fours and sets of places, and seeks what betters a code. */
    private static final class Searcher {
        private final int[] threesWith = new int[SYNDROMES];
        private final int[] twosWith = new int[SYNDROMES];
        private final Code trial = new Code();
        private final Reading read = new Reading();
        int bestPlace = NONE;
        int bestOther = NONE;
        int bestCount = NONE;

        int best(int what) {
            switch (what) {
                case 0: return bestPlace;
                case 1: return bestOther;
                default: return bestCount;
            }
        }

        private void settleBest(int place, int other, int count) {
            bestPlace = place;
            bestOther = other;
            bestCount = count;
        }

        int countMissed(Code code, int places) {
            int missed = 0;
            for (int i = 0; i < places; i++) {
                for (int j = i + 1; j < places; j++) {
                    int two = code.columns[i] ^ code.columns[j];
                    for (int k = j + 1; k < places; k++) {
                        missed += code.placeWith(two ^ code.columns[k]) != NONE ? 1 : 0;
                    }
                }
            }
            return missed;
        }

        // An unseen four is four missed threes, each with the column of the place left out.
        int countUnseen(Code code) {
            return countMissed(code, code.places()) / 4;
        }

        int countMistaken(Code code) {
            int mistaken = 0;
            int places = code.pairs ? code.places() : 0;
            for (int i = 0; i < places; i++) {
                for (int j = i + 2; j < places; j++) {
                    mistaken += code.pairWith(code.columns[i] ^ code.columns[j]) != NONE ? 1 : 0;
                }
            }
            return mistaken;
        }

        int countLoneXors(Code code) {
            Arrays.fill(twosWith, 0);
            for (int place = 1; place < code.places(); place++) {
                twosWith[code.columns[place - 1] ^ code.columns[place]]++;
            }
            int lone = 0;
            for (int xor = 0; xor < SYNDROMES; xor++) {
                lone += twosWith[xor] == 1 ? 1 : 0;
            }
            return lone;
        }

        void seekChange(Code code) {
            settleBest(NONE, NONE, NONE);
            countXors(code);
            int unseen = countUnseen(code);
            int fewest = unseen;
            for (int place = 0; place < code.data; place++) {
                int without = unseen - threesBeside(code, place, code.columns[place]);
                for (int column = 0; column < 1 << code.checks; column++) {
                    if (!code.isDataColumn(column) || code.placeWith(column) != NONE) {
                        continue;
                    }
                    int then = without + threesBeside(code, place, column);
                    if (then < fewest) {
                        fewest = then;
                        settleBest(place, column, then * 4);
                    }
                }
            }
        }

        private void countXors(Code code) {
            Arrays.fill(twosWith, 0);
            Arrays.fill(threesWith, 0);
            int places = code.places();
            for (int i = 0; i < places; i++) {
                for (int j = i + 1; j < places; j++) {
                    int two = code.columns[i] ^ code.columns[j];
                    twosWith[two]++;
                    for (int k = j + 1; k < places; k++) {
                        threesWith[two ^ code.columns[k]]++;
                    }
                }
            }
        }

        // Threes of other places with that XOR: all, less those of this place and two more. These two are
        // others, as the column is this place's own or nobody's.
        private int threesBeside(Code code, int place, int column) {
            return threesWith[column] - twosWith[column ^ code.columns[place]];
        }

        int countAllSets(Code code, int what) {
            int count = 0;
            for (int chip = 0; chip < code.chips(); chip++) {
                count += countSets(code, chip, what);
            }
            return count;
        }

        int countSets(Code code, int chip, int what) {
            int first = chip * CHIP_PLACES;
            int size = Math.min(CHIP_PLACES, code.places() - first);
            int count = 0;
            for (int set = 1; set < 1 << size; set++) {
                int off = set << first;
                read.read(code, xorOfSet(code, first, set), 0);
                count += read.judge(off) == what ? 1 : 0;
            }
            return count;
        }

        private static int xorOfSet(Code code, int first, int set) {
            int xor = 0;
            for (int i = 0; i < CHIP_PLACES; i++) {
                if ((set >>> i & 1) == 1) {
                    xor ^= code.columns[first + i];
                }
            }
            return xor;
        }

        void seekExchange(Code code) {
            settleBest(NONE, NONE, NONE);
            trial.copyFrom(code);
            int fewest = countAllSets(trial, WRONG);
            for (int place = 0; place < code.data; place++) {
                for (int other = place + 1; other < code.data; other++) {
                    trial.exchangeColumns(place, other);
                    int then = countAllSets(trial, WRONG);
                    trial.exchangeColumns(place, other);
                    if (then < fewest) {
                        fewest = then;
                        settleBest(place, other, then);
                    }
                }
            }
        }
    }

    /** Signals that rows share: each signal's rows are the bits of a number. */
    private static final class Sharing {
        // 24 columns of 7 ones at most, and each signal more takes two of them at least.
        private static final int MAX_SIGNALS = 128;
        private final int[] rowsOf = new int[MAX_SIGNALS];
        private final int[] depths = new int[MAX_SIGNALS];
        private final int[] lowers = new int[MAX_SIGNALS];
        private final int[] others = new int[MAX_SIGNALS];
        private final int[] togethers = new int[MAX_SIGNALS];
        private final int[] atDepth = new int[MAX_SIGNALS];
        private int data;
        private int checks;
        private int signals;

        int countPlainGates(Code code) {
            int gates = 0;
            for (int row = 0; row < code.checks; row++) {
                gates += Math.max(0, code.wiresOf(row) - 1);
            }
            return gates;
        }

        void share(Code code) {
            data = code.data;
            checks = code.checks;
            signals = data;
            for (int place = 0; place < data; place++) {
                rowsOf[place] = code.columns[place];
                depths[place] = 0;
            }
            for (int i = 0; i < MAX_SIGNALS - MAX_DATA; i++) {
                if (!joinMostShared()) {
                    break;
                }
            }
        }

        private boolean joinMostShared() {
            int most = 1;
            int lower = NONE;
            int other = NONE;
            for (int i = 0; i < signals; i++) {
                if (Integer.bitCount(rowsOf[i]) <= most) {
                    continue;
                }
                for (int j = i + 1; j < signals; j++) {
                    int together = Integer.bitCount(rowsOf[i] & rowsOf[j]);
                    if (together > most) {
                        most = together;
                        lower = i;
                        other = j;
                    }
                }
            }
            if (lower == NONE || signals >= MAX_SIGNALS) {
                return false;
            }
            addSignal(lower, other, most);
            return true;
        }

        private void addSignal(int lower, int other, int together) {
            int both = rowsOf[lower] & rowsOf[other];
            rowsOf[signals] = both;
            rowsOf[lower] &= ~both;
            rowsOf[other] &= ~both;
            depths[signals] = Math.max(depths[lower], depths[other]) + 1;
            lowers[signals] = lower;
            others[signals] = other;
            togethers[signals] = together;
            signals++;
        }

        int countMore() {
            return signals - data;
        }

        int told(int i, int what) {
            if (i < 0 || i >= countMore()) {
                return NONE;
            }
            switch (what) {
                case 0: return lowers[data + i];
                case 1: return others[data + i];
                case 2: return togethers[data + i];
                case 3: return depths[data + i];
                default: return NONE;
            }
        }

        int countGates() {
            int gates = countMore();
            for (int row = 0; row < checks; row++) {
                gates += Math.max(0, countInRow(row) - 1);
            }
            return gates;
        }

        private int countInRow(int row) {
            int count = 0;
            for (int i = 0; i < signals; i++) {
                count += rowsOf[i] >>> row & 1;
            }
            return count;
        }

        int deepestRow() {
            int deepest = 0;
            for (int row = 0; row < checks; row++) {
                deepest = Math.max(deepest, depthOfRow(row));
            }
            return deepest;
        }

        private int depthOfRow(int row) {
            Arrays.fill(atDepth, 0);
            int left = 0;
            for (int i = 0; i < signals; i++) {
                if ((rowsOf[i] >>> row & 1) == 1 && depths[i] < MAX_SIGNALS) {
                    atDepth[depths[i]]++;
                    left++;
                }
            }
            for (int depth = 0; depth < MAX_SIGNALS - 1; depth++) {
                int here = atDepth[depth];
                if (left <= 1 && here == left) {
                    return depth;
                }
                int joined = here / 2;
                atDepth[depth + 1] += here - joined;
                left -= joined;
            }
            return MAX_SIGNALS - 1;
        }
    }
}
