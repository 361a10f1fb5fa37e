/** Promises 1 to 21: each sentence has a test of its own. */
final class ActSentences {
    private static final int NONE = Sentences.NONE;
    private static final int[] NO_WORDS = Sentences.beside(0, 15);
    private final Sentences s;

    ActSentences(Sentences s) {
        this.s = s;
    }

    void all() {
        newObject();
        feed();
        end();
        code();
        codeWithFault();
        fault();
        write();
        part();
        mend();
        scrub();
        slip();
        burst();
        storm();
        stick();
        free();
        column();
        swap();
        way();
        pairs();
        better();
        undo();
        redo();
    }

    private void newObject() {
        s.of(1, "DATA 8, CHECKS 5, first.");
        OddColumns x = new OddColumns();
        s.due("about(0)", x.about(0), 8);
        s.due("about(1)", x.about(1), 5);
        for (int what = 2; what < 8; what++) {
            s.due("about(" + what + ")", x.about(what), 0);
        }
        s.columnsAre(x, 7, 11, 13, 14, 19, 21, 22, 25, 1, 2, 4, 8, 16, NONE);
        for (int word = 0; word < 16; word++) {
            for (int what = 0; what < 5; what++) {
                s.due("word(" + word + ", " + what + ")", x.word(word, what), 0);
            }
            s.none("stuck(" + word + ", 0)", x.stuck(word, 0));
        }
        s.talliesAre(x, 0, 0, 0, 0, 0, 0, 0, 0);
        s.no("undo()", x.undo());
        s.no("redo()", x.redo());
        s.none("back(0)", x.back(0));
        s.none("back(1)", x.back(1));
        // What another object was told is nothing to it.
        OddColumns y = s.made("data 4; checks 8; pairs; word 0 1;");
        s.due("about(0)", new OddColumns().about(0), 8);
        s.due("about(0)", y.about(0), 4);
    }

    // ---------------------------------------------------------------- tape and code

    private void feed() {
        s.of(2, "Twenty bytes come behind those on the TAPE, of each number the highest first:");
        // "pair" "s;wo" "rd 3" " 9; " "    "
        OddColumns x = new OddColumns();
        x.feed(0x70616972, 0x733B776F, 0x72642033, 0x20393B20, 0x20202020);
        s.due("code()", x.code(), 13);
        s.due("about(2)", x.about(2), 1);
        s.due("word(3, 0)", x.word(3, 0), 9);
        // Behind what an end left: "data" "4;" and 14 blanks.
        x.feed(0x64617461, 0, 0, 0, 0);
        x.end(4);
        x.feed(0x343B2020, 0x20202020, 0x20202020, 0x20202020, 0x20202020);
        s.due("about(7)", x.about(7), 24);
        s.due("code()", x.code(), 9);
        // The highest byte has a sign's bit: 0xE9 is a byte of its own, at 3.
        x.feed(0x202020E9, 0x20202020, 0x20202020, 0x20202020, 0xFFFFFFFF);
        x.code();
        s.due("fault(1)", x.fault(1), 3);
        s.of(2, "how many there are;");
        x = new OddColumns();
        for (int i = 1; i <= 30; i++) {
            s.due("feed", x.feed(-1, 0, 0, 0, 0), 20 * i);
            s.due("about(7)", x.about(7), 20 * i);
        }
        s.of(2, "NONE, and nothing comes, if there would be more than 600.");
        OddColumns full = x;
        s.refused(full, "feed behind 600", () -> full.feed(1, 2, 3, 4, 5));
        for (int n = 599; n > 580; n--) {
            full.end(n);
            s.refused(full, "feed behind " + n, () -> full.feed(1, 2, 3, 4, 5));
        }
        full.end(580);
        s.due("feed behind 580", full.feed(1, 2, 3, 4, 5), 600);
        // Not even the first of them comes.
        OddColumns y = new OddColumns();
        Sentences.feedText(y, " ".repeat(595));
        y.feed(0x70616972, 0x733B2020, 0x20202020, 0x20202020, 0x20202020);
        s.due("code()", y.code(), 13);
        s.due("about(2)", y.about(2), 0);
    }

    private void end() {
        s.of(3, "The TAPE has its first n bytes alone: n;");
        OddColumns x = new OddColumns();
        Sentences.feedText(x, "data 4;data 8;xxxxxx");
        s.due("end(20)", x.end(20), 20);
        s.due("end(7)", x.end(7), 7);
        s.due("about(7)", x.about(7), 7);
        s.due("code()", x.code(), 9);
        x = new OddColumns();
        s.due("end(0) of nothing", x.end(0), 0);
        x.feed(1, 2, 3, 4, 5);
        s.due("end(0)", x.end(0), 0);
        s.due("about(7)", x.about(7), 0);
        s.due("code()", x.code(), 13);
        s.of(3, "NONE, and nothing happens, if it has not so many, or n is below 0.");
        OddColumns y = Sentences.busy();
        for (int n : Sentences.beside(0, 20)) {
            s.refused(y, "end(" + n + ")", () -> y.end(n));
        }
        y.end(5);
        for (int n : new int[] {6, 19, 20, 21, 600, 601}) {
            s.refused(y, "end(" + n + ")", () -> y.end(n));
        }
        y.end(0);
        s.refused(y, "end(1)", () -> y.end(1));
    }

    private void code() {
        s.of(4, "The TAPE (empty then) is the CODE (");
        OddColumns x = Sentences.busy();
        Sentences.feedText(x, "");
        x.end(0);
        Sentences.feedText(x, "data 10; checks 6; pairs; column 0 56;");
        s.due("about(7)", x.about(7), 38);
        s.due("code()", x.code(), 16);
        s.due("about(7)", x.about(7), 0);
        s.due("about(0)", x.about(0), 10);
        s.due("about(1)", x.about(1), 6);
        s.due("about(2)", x.about(2), 1);
        s.columnsAre(x, 56, 11, 13, 14, 19, 21, 22, 25, 26, 28, 1);
        s.due("code() of nothing", x.code(), 13);
        s.columnsAre(x, 7, 11, 13, 14, 19, 21, 22, 25, 1);
        codesBehindCodes();
        s.of(4, "WORDS as told, others 0;");
        x = Sentences.busy();
        s.due("code()", Sentences.give(x, "word 0 3; word 15 255;"), 13);
        for (int word = 0; word < 16; word++) {
            int told = word == 0 ? 3 : word == 15 ? 255 : 0;
            s.due("word(" + word + ", 0)", x.word(word, 0), told);
            s.due("word(" + word + ", 3)", x.word(word, 3), told);
            s.due("word(" + word + ", 4)", x.word(word, 4), 0);
            s.none("stuck(" + word + ", 0)", x.stuck(word, 0));
        }
        // What a code with a fault told is told no more.
        Sentences.give(x, "word 1 9; x");
        Sentences.give(x, "word 0 3;");
        s.due("word(1, 0)", x.word(1, 0), 0);
        s.of(4, "TALLIES 0;");
        x = Sentences.busy();
        x.scrub();
        Sentences.give(x, "data 8;");
        s.talliesAre(x, 0, 0, 0, 0, 0, 0, 0, 0);
        s.of(4, "no ACTS are kept;");
        x = Sentences.busy();
        s.due("about(6)", x.about(6), 1);
        Sentences.give(x, "data 8;");
        s.due("about(5)", x.about(5), 0);
        s.due("about(6)", x.about(6), 0);
        s.no("undo()", x.undo());
        s.no("redo()", x.redo());
        for (int ahead = 0; ahead <= 13; ahead++) {
            x = new OddColumns();
            writeMany(x, ahead);
            x.code();
            s.actsGoOn("behind code() behind " + ahead + " acts", x);
        }
        s.of(4, "BOXES are empty):");
        x = Sentences.busy();
        x.image(0);
        x.image(1);
        Sentences.give(x, "data 8;");
        s.none("back(0)", x.back(0));
        s.none("back(1)", x.back(1));
        s.of(4, "N;");
        s.due("code()", Sentences.give(x, "data 4; checks 4;"), 8);
        s.due("code()", Sentences.give(x, "data 24; checks 8;"), 32);
        s.due("code()", Sentences.give(x, ""), 13);
    }

    // What an object was ahead of a code is nothing to what it is then: it answers as a new one does.
    private void codesBehindCodes() {
        String[] texts = {"", "data 4; checks 4;", "data 24; checks 8; way balanced;", "data 10; way paired; pairs;",
            "data 12; checks 6; pairs; word 15 4095;", "data 6; checks 7; column 0 127; column 1 124;", "data 11;"};
        for (String first : texts) {
            for (String then : texts) {
                OddColumns x = s.made(first);
                s.looks(x);
                x.storm(7, 99, 0);
                x.stick(3, 3, 1);
                x.better();
                x.way(2);
                x.way(1);
                s.looks(x);
                Sentences.give(x, then);
                OddColumns y = s.made(then);
                s.same(then + " behind " + first, s.looks(x), s.looks(y));
            }
        }
    }

    private static void writeMany(OddColumns x, int n) {
        for (int i = 0; i < n; i++) {
            x.write(0, i);
        }
    }

    private void codeWithFault() {
        s.of(4, "NONE, and all stays: a FAULT.");
        String[] texts = {"x", "data 3;", "pairs; pairs;", "data 12;", "data 4; checks 8; pairs; word 0 9; column 0 26; x",
            "word 0 9; word 16 0;", "way balanced; column 0 56;"};
        for (String text : texts) {
            OddColumns x = Sentences.busy();
            x.image(0);
            x.end(0);
            String ahead = stays(x);
            s.due("code() of " + text, Sentences.give(x, text), NONE);
            s.same("all behind " + text, stays(x), ahead);
            // It can be undone and done again still, and both boxes are as they were.
            s.yes("redo()", x.redo());
            s.due("word(6, 3)", x.word(6, 3), 99);
            s.yes("undo()", x.undo());
            s.due("back(0)", x.back(0), 12);
            s.due("back(1)", x.back(1), 12);
        }
    }

    // All but the fault and the tape.
    private static String stays(OddColumns x) {
        String all = Sentences.all(x);
        int from = all.indexOf("fault");
        return all.substring(0, from) + all.substring(all.indexOf("columns"));
    }

    private void fault() {
        s.of(5, "Of the latest code() what 0: its FAULT");
        OddColumns x = new OddColumns();
        String[] texts = {"x", "data 3;", "pairs; pairs;", "data 12;"};
        for (int kind = 1; kind <= 4; kind++) {
            Sentences.give(x, texts[kind - 1]);
            s.due("fault(0)", x.fault(0), kind);
            x.write(0, 1);
            x.undo();
            Sentences.feedText(x, "abc");
            s.due("fault(0), later", x.fault(0), kind);
        }
        s.of(5, "(0: without; ahead of any, too)");
        s.due("fault(0)", new OddColumns().fault(0), 0);
        Sentences.give(x, "data 8;");
        s.due("fault(0)", x.fault(0), 0);
        s.of(5, ", 1: its place (NONE).");
        Sentences.give(x, "pairs; x");
        s.due("fault(1)", x.fault(1), 7);
        Sentences.give(x, "x");
        s.due("fault(1)", x.fault(1), 0);
        Sentences.give(x, "data 8;");
        s.none("fault(1)", x.fault(1));
        s.none("fault(1)", new OddColumns().fault(1));
        s.of(5, "NONE for another what.");
        Sentences.give(x, "pairs; x");
        OddColumns y = x;
        for (int what : Sentences.beside(0, 1)) {
            s.refused(y, "fault(" + what + ")", () -> y.fault(what));
        }
    }

    // ---------------------------------------------------------------- words

    private void write() {
        s.of(6, "WRITE: true;");
        OddColumns x = s.made("word 15 170;");
        s.yes("write(0, 0)", x.write(0, 0));
        s.due("about(5)", x.about(5), 1);
        s.yes("write(15, 255)", x.write(15, 255));
        s.due("word(15, 0)", x.word(15, 0), 255);
        s.due("word(15, 1)", x.word(15, 1), 7 ^ 11 ^ 13 ^ 14 ^ 19 ^ 21 ^ 22 ^ 25);
        s.due("word(15, 3)", x.word(15, 3), 255);
        x = s.made("data 24; checks 8;");
        s.yes("write(0, 16777215)", x.write(0, 16777215));
        s.of(6, "false, and nothing happens, if there is no such WORD, or data can't be.");
        OddColumns y = Sentences.busy();
        for (int word : NO_WORDS) {
            s.denied(y, "write(" + word + ", 0)", () -> y.write(word, 0));
        }
        for (int data : Sentences.beside(0, 255)) {
            s.denied(y, "write(0, " + data + ")", () -> y.write(0, data));
        }
        OddColumns wide = s.made("data 24; checks 8;");
        for (int data : Sentences.beside(0, 16777215)) {
            s.denied(wide, "write(0, " + data + ")", () -> wide.write(0, data));
        }
        OddColumns narrow = s.made("data 4;");
        s.denied(narrow, "write(0, 16)", () -> narrow.write(0, 16));
        s.yes("write(0, 15)", narrow.write(0, 15));
    }

    private void part() {
        s.of(7, "PART: 0 to 2, 5, as it was read;");
        OddColumns x = s.made("pairs;");
        x.slip(1, 0);
        x.burst(2, 3, 2);
        x.stick(5, 0, 1);
        for (int word : new int[] {0, 1, 2, 5}) {
            s.due("part(" + word + ", 255, 129)", x.part(word, 255, 129), word);
            s.due("word(" + word + ", 3)", x.word(word, 3), 129);
        }
        s.due("part(15, 0, 255)", x.part(15, 0, 255), 0);
        s.due("about(5)", x.about(5), 8);
        s.of(7, "3, 4: REFUSED;");
        OddColumns told = s.made("word 3 9; word 4 9;");
        told.burst(3, 0, 2);
        told.slip(4, 0);
        told.slip(4, 1);
        told.slip(4, 6);
        for (int word = 3; word <= 4; word++) {
            int w = word;
            s.still(told, "part(" + w + ", 255, 1)", () -> told.part(w, 255, 1), w);
        }
        s.of(7, "NONE, and nothing happens, if there is no such WORD, or mask, data can't be (numbers as for WRITE).");
        OddColumns y = Sentences.busy();
        for (int word : NO_WORDS) {
            s.refused(y, "part(" + word + ", 0, 0)", () -> y.part(word, 0, 0));
        }
        for (int n : Sentences.beside(0, 255)) {
            s.refused(y, "part(0, " + n + ", 0)", () -> y.part(0, n, 0));
            s.refused(y, "part(0, 0, " + n + ")", () -> y.part(0, 0, n));
        }
        s.due("part(0, 255, 255)", y.part(0, 255, 255), 0);
        OddColumns wide = s.made("data 24; checks 8;");
        s.due("part(0, 16777215, 16777215)", wide.part(0, 16777215, 16777215), 0);
        s.refused(wide, "part(0, 16777216, 0)", () -> wide.part(0, 16777216, 0));
        s.refused(wide, "part(0, 0, 16777216)", () -> wide.part(0, 0, 16777216));
    }

    private void mend() {
        s.of(8, "MEND: 0 .. 5, as it was read;");
        OddColumns x = s.made("pairs;");
        x.slip(1, 0);
        x.burst(2, 3, 2);
        // 7 ^ 13 is 10, of nobody; 7 ^ 11 ^ 22 is 26.
        x.slip(3, 0);
        x.slip(3, 2);
        x.slip(4, 0);
        x.slip(4, 1);
        x.slip(4, 6);
        x.stick(5, 0, 1);
        for (int word = 0; word <= 5; word++) {
            s.due("mend(" + word + ")", x.mend(word), word);
        }
        s.due("mend(15)", x.mend(15), 0);
        s.of(8, "NONE if there is no such WORD.");
        OddColumns y = Sentences.busy();
        for (int word : NO_WORDS) {
            s.refused(y, "mend(" + word + ")", () -> y.mend(word));
        }
        s.of(8, "(An ACT.)");
        // Even if it is CLEAN, or TOLD.
        x = new OddColumns();
        x.mend(0);
        s.due("about(5)", x.about(5), 1);
        x.burst(1, 0, 2);
        x.mend(1);
        s.due("about(5)", x.about(5), 3);
        s.yes("undo()", x.undo());
        s.due("tally(3)", x.tally(3), 0);
    }

    private void scrub() {
        s.of(9, "SCRUB: how many WORDS were MENDED, HEALED.");
        OddColumns x = s.made("pairs;");
        s.due("scrub()", x.scrub(), 0);
        x.slip(0, 0);
        s.due("scrub()", x.scrub(), 1);
        x.slip(15, 0);
        x.burst(2, 3, 2);
        x.stick(5, 0, 1);
        x.slip(3, 0);
        x.slip(3, 2);
        x.slip(4, 0);
        x.slip(4, 1);
        x.slip(4, 6);
        s.due("scrub()", x.scrub(), 3);
        // The stuck one is healed again by each; those that are told stay so.
        s.due("scrub()", x.scrub(), 1);
        s.due("about(4)", x.about(4), 8 + 16 + 32);
        for (int word = 0; word < 16; word++) {
            x.write(word, 0);
            x.free(word);
            x.write(word, 0);
            x.slip(word, word % 13);
        }
        s.due("scrub()", x.scrub(), 16);
        s.of(9, "(An ACT.)");
        x = new OddColumns();
        x.scrub();
        s.due("about(5)", x.about(5), 1);
        s.due("tally(0)", x.tally(0), 16);
        s.yes("undo()", x.undo());
        s.due("tally(0)", x.tally(0), 0);
    }

    private void slip() {
        s.of(10, "SLIP: the bit it is then;");
        OddColumns x = new OddColumns();
        for (int place : new int[] {0, 7, 8, 12}) {
            s.due("slip(15, " + place + ")", x.slip(15, place), 1);
            s.due("slip(15, " + place + ")", x.slip(15, place), 0);
        }
        x.stick(0, 3, 1);
        s.due("slip(0, 3), stuck", x.slip(0, 3), 1);
        x.stick(0, 4, 0);
        s.due("slip(0, 4), stuck", x.slip(0, 4), 0);
        x = s.made("data 24; checks 8;");
        s.due("slip(0, 31)", x.slip(0, 31), 1);
        s.due("slip(0, 31)", x.slip(0, 31), 0);
        s.of(10, "NONE, and nothing happens, if there is no such WORD, place.");
        OddColumns y = Sentences.busy();
        for (int word : NO_WORDS) {
            s.refused(y, "slip(" + word + ", 0)", () -> y.slip(word, 0));
        }
        for (int place : Sentences.beside(0, 12)) {
            s.refused(y, "slip(0, " + place + ")", () -> y.slip(0, place));
        }
        OddColumns wide = s.made("data 24; checks 8;");
        s.refused(wide, "slip(0, 32)", () -> wide.slip(0, 32));
    }

    private void burst() {
        s.of(11, "A BURST of n places (1 .. 8) from one on: true;");
        OddColumns x = new OddColumns();
        s.yes("burst(0, 12, 1)", x.burst(0, 12, 1));
        s.due("word(0, 1)", x.word(0, 1), 16);
        s.yes("burst(15, 5, 8)", x.burst(15, 5, 8));
        s.due("word(15, 0)", x.word(15, 0), 32 + 64 + 128);
        s.due("word(15, 1)", x.word(15, 1), 31);
        s.yes("burst(1, 0, 8)", x.burst(1, 0, 8));
        s.due("word(1, 0)", x.word(1, 0), 255);
        x = s.made("data 24; checks 8;");
        s.yes("burst(0, 24, 8)", x.burst(0, 24, 8));
        s.due("word(0, 1)", x.word(0, 1), 255);
        s.due("word(0, 0)", x.word(0, 0), 0);
        s.yes("burst(0, 31, 1)", x.burst(0, 31, 1));
        s.due("word(0, 1)", x.word(0, 1), 127);
        s.of(11, "false, and nothing happens, if there are none such.");
        OddColumns y = Sentences.busy();
        for (int word : NO_WORDS) {
            s.denied(y, "burst(" + word + ", 0, 1)", () -> y.burst(word, 0, 1));
        }
        for (int n : Sentences.beside(1, 8)) {
            s.denied(y, "burst(0, 0, " + n + ")", () -> y.burst(0, 0, n));
        }
        for (int n = 1; n <= 8; n++) {
            int many = n;
            for (int place : Sentences.beside(0, 13 - n)) {
                s.denied(y, "burst(0, " + place + ", " + many + ")", () -> y.burst(0, place, many));
            }
        }
        OddColumns wide = s.made("data 24; checks 8;");
        s.denied(wide, "burst(0, 25, 8)", () -> wide.burst(0, 25, 8));
        OddColumns narrow = s.made("data 4; checks 4;");
        s.denied(narrow, "burst(0, 1, 8)", () -> narrow.burst(0, 1, 8));
        s.yes("burst(0, 0, 8)", narrow.burst(0, 0, 8));
    }

    private void storm() {
        s.of(12, "A STORM of n SLIPS (1 .. 200) by a seed (0 .. 9,999), SCRUBBED behind each so many (0 .. 50): how many WORDS are not what is MEANT then;");
        OddColumns x = new OddColumns();
        s.due("storm(0, 1, 0)", x.storm(0, 1, 0), 1);
        s.due("tally(7)", x.tally(7), 1);
        s.due("storm(0, 2, 0)", x.storm(0, 2, 0), 1);
        s.due("tally(7)", x.tally(7), 3);
        // The same two once more: word 7 slips, word 3 slips back.
        s.due("storm(0, 2, 50)", x.storm(0, 2, 50), 1);
        x = new OddColumns();
        int answer = x.storm(9999, 200, 50);
        s.due("storm(9999, 200, 50)", answer, Integer.bitCount(x.about(4)));
        s.due("tally(7)", x.tally(7), 200);
        s.due("readings", x.tally(0) + x.tally(1) + x.tally(3) + x.tally(4), 4 * 16);
        s.due("about(5)", x.about(5), 1);
        s.of(12, "NONE, and nothing happens, if one can't be.");
        OddColumns y = Sentences.busy();
        for (int seed : Sentences.beside(0, 9999)) {
            s.refused(y, "storm(" + seed + ", 1, 0)", () -> y.storm(seed, 1, 0));
        }
        for (int n : Sentences.beside(1, 200)) {
            s.refused(y, "storm(0, " + n + ", 0)", () -> y.storm(0, n, 0));
        }
        for (int every : Sentences.beside(0, 50)) {
            s.refused(y, "storm(0, 1, " + every + ")", () -> y.storm(0, 1, every));
        }
    }

    private void stick() {
        s.of(13, "A place of a WORD is STUCK at v (0, 1): true;");
        OddColumns x = s.made("word 0 1;");
        s.yes("stick(0, 0, 0)", x.stick(0, 0, 0));
        s.due("word(0, 0)", x.word(0, 0), 0);
        s.due("word(0, 3)", x.word(0, 3), 1);
        s.yes("stick(0, 12, 1)", x.stick(0, 12, 1));
        s.due("word(0, 1)", x.word(0, 1), 7 | 16);
        s.due("word(0, 2)", x.word(0, 2), 7 ^ 16);
        s.yes("stick(15, 7, 0), as it is", x.stick(15, 7, 0));
        s.due("stuck(15, 0)", x.stuck(15, 0), 7);
        s.due("about(5)", x.about(5), 3);
        s.due("tally(7)", x.tally(7), 0);
        s.of(13, "false, and nothing happens, if there is none such, it is STUCK, or two of that WORD are.");
        OddColumns y = Sentences.busy();
        for (int word : NO_WORDS) {
            s.denied(y, "stick(" + word + ", 0, 0)", () -> y.stick(word, 0, 0));
        }
        for (int place : Sentences.beside(0, 12)) {
            s.denied(y, "stick(0, " + place + ", 0)", () -> y.stick(0, place, 0));
        }
        for (int v : Sentences.beside(0, 1)) {
            s.denied(y, "stick(0, 0, " + v + ")", () -> y.stick(0, 0, v));
        }
        // Word 4 is stuck at 6 alone, word 3 at 0 and 12.
        s.denied(y, "stick(4, 6, 0)", () -> y.stick(4, 6, 0));
        s.denied(y, "stick(4, 6, 1)", () -> y.stick(4, 6, 1));
        for (int place = 0; place < 13; place++) {
            int p = place;
            s.denied(y, "stick(3, " + p + ", 1)", () -> y.stick(3, p, 1));
        }
        s.yes("stick(4, 5, 0)", y.stick(4, 5, 0));
        s.denied(y, "stick(4, 7, 0)", () -> y.stick(4, 7, 0));
    }

    private void free() {
        s.of(14, "No place of a WORD is STUCK any more (they are as they are): how many were;");
        OddColumns x = new OddColumns();
        x.stick(0, 0, 1);
        x.stick(15, 0, 1);
        x.stick(15, 12, 1);
        s.due("free(0)", x.free(0), 1);
        s.due("free(15)", x.free(15), 2);
        s.none("stuck(15, 0)", x.stuck(15, 0));
        s.none("stuck(15, 1)", x.stuck(15, 1));
        s.due("word(15, 0)", x.word(15, 0), 1);
        s.due("word(15, 1)", x.word(15, 1), 16);
        s.due("slip(15, 0)", x.slip(15, 0), 0);
        s.due("about(5)", x.about(5), 6);
        x.stick(1, 0, 1);
        s.due("free(1)", x.free(1), 1);
        s.yes("undo()", x.undo());
        s.due("stuck(1, 0)", x.stuck(1, 0), 0);
        s.of(14, "NONE, and nothing happens, if none was, or there is no such WORD.");
        OddColumns y = Sentences.busy();
        for (int word : NO_WORDS) {
            s.refused(y, "free(" + word + ")", () -> y.free(word));
        }
        for (int word : new int[] {0, 1, 2, 5, 15}) {
            s.refused(y, "free(" + word + ")", () -> y.free(word));
        }
        y.free(3);
        s.refused(y, "free(3), again", () -> y.free(3));
    }

    // ---------------------------------------------------------------- columns

    private void column() {
        s.of(15, "A place of data has another COLUMN: true;");
        OddColumns x = s.made("word 0 129; word 1 128;");
        s.yes("column(0, 26)", x.column(0, 26));
        s.due("columnOf(0)", x.columnOf(0), 26);
        s.yes("column(7, 31)", x.column(7, 31));
        s.due("columnOf(7)", x.columnOf(7), 31);
        s.due("word(0, 1)", x.word(0, 1), 26 ^ 31);
        s.due("word(1, 1)", x.word(1, 1), 31);
        s.due("find(31, 0)", x.find(31, 0), 7);
        s.none("find(25, 0)", x.find(25, 0));
        // What was given up is free.
        s.yes("column(1, 7)", x.column(1, 7));
        s.due("about(5)", x.about(5), 3);
        s.of(15, "false, and nothing happens, if there is none such, it is none of data, or some place has it.");
        OddColumns y = Sentences.busy();
        for (int place : Sentences.beside(0, 7)) {
            s.denied(y, "column(" + place + ", 28)", () -> y.column(place, 28));
        }
        for (int place = 8; place < 13; place++) {
            int p = place;
            s.denied(y, "column(" + p + ", 28)", () -> y.column(p, 28));
        }
        // None of data: too few ones, an even number, too wide.
        for (int c : new int[] {Sentences.LEAST, -1, -25, 0, 1, 3, 16, 15, 30, 32, 35, 37, 263, 1 << 30 | 3, Sentences.MOST}) {
            s.denied(y, "column(0, " + c + ")", () -> y.column(0, c));
        }
        // Places have these: its own, others of data, checks'.
        for (int c : new int[] {7, 11, 26, 14, 19, 21, 22, 25, 1, 2, 4, 8, 16}) {
            s.denied(y, "column(0, " + c + ")", () -> y.column(0, c));
        }
    }

    private void swap() {
        s.of(16, "Two unlike places of data exchange their COLUMNS: true;");
        OddColumns x = s.made("word 0 1;");
        x.slip(0, 5);
        s.yes("swap(0, 7)", x.swap(0, 7));
        s.due("columnOf(0)", x.columnOf(0), 25);
        s.due("columnOf(7)", x.columnOf(7), 7);
        s.due("word(0, 1)", x.word(0, 1), 25);
        s.due("word(0, 4)", x.word(0, 4), 0);
        s.yes("swap(7, 0)", x.swap(7, 0));
        s.columnsAre(x, 7, 11, 13, 14, 19, 21, 22, 25, 1);
        s.due("find(25, 0)", x.find(25, 0), 7);
        s.due("find(24, 1)", x.find(24, 1), 7);
        s.due("about(5)", x.about(5), 3);
        s.of(16, "false, and nothing happens, if there are none such.");
        OddColumns y = Sentences.busy();
        for (int place : Sentences.beside(0, 7)) {
            s.denied(y, "swap(" + place + ", 0)", () -> y.swap(place, 0));
            s.denied(y, "swap(0, " + place + ")", () -> y.swap(0, place));
        }
        for (int place = 0; place < 13; place++) {
            int p = place;
            s.denied(y, "swap(" + p + ", " + p + ")", () -> y.swap(p, p));
        }
        s.denied(y, "swap(8, 9)", () -> y.swap(8, 9));
    }

    private void way() {
        s.of(17, "COLUMNS are chosen anew, WAY 0 first, 1 balanced, 2 paired: true;");
        OddColumns x = s.made("word 0 1;");
        x.column(0, 31);
        s.yes("way(0)", x.way(0));
        s.columnsAre(x, 7, 11, 13, 14, 19, 21, 22, 25, 1, 2, 4, 8, 16, NONE);
        s.yes("way(1)", x.way(1));
        s.columnsAre(x, 7, 11, 28, 13, 14, 19, 21, 26, 1, 2, 4, 8, 16, NONE);
        s.yes("way(2)", x.way(2));
        s.columnsAre(x, 7, 13, 19, 14, 11, 28, 21, 26, 1, 2, 4, 8, 16, NONE);
        s.due("word(0, 0)", x.word(0, 0), 1);
        s.due("about(4)", x.about(4), 0);
        // Anew means as if none had been chosen ahead of it.
        for (int i = 0; i < 9; i++) {
            int way = i * 5 % 3;
            OddColumns fresh = new OddColumns();
            fresh.way(way);
            s.yes("way(" + way + ")", x.way(way));
            s.yes("way(" + way + ") again", x.way(way));
            for (int place = 0; place < 13; place++) {
                s.due("columnOf(" + place + ")", x.columnOf(place), fresh.columnOf(place));
            }
        }
        s.of(17, "false, and nothing happens, if they can't be.");
        OddColumns y = Sentences.busy();
        for (int way : Sentences.beside(0, 2)) {
            s.denied(y, "way(" + way + ")", () -> y.way(way));
        }
        for (String text : new String[] {"data 4; checks 4;", "data 11;", "data 20; checks 6;"}) {
            OddColumns z = s.made(text);
            z.write(0, 1);
            z.slip(0, 0);
            z.undo();
            s.denied(z, "way(2) of " + text, () -> z.way(2));
            s.yes("redo()", z.redo());
        }
        s.of(17, "(An ACT, even if all stay.)");
        x = new OddColumns();
        x.slip(0, 0);
        x.write(1, 1);
        x.undo();
        s.yes("way(0)", x.way(0));
        s.due("about(5)", x.about(5), 2);
        s.due("about(6)", x.about(6), 0);
        s.due("word(0, 4), not written anew", x.word(0, 4), 1);
    }

    private void pairs() {
        s.of(18, "PAIRS are mended, or not: true;");
        OddColumns x = new OddColumns();
        x.burst(0, 3, 2);
        s.yes("pairs(true)", x.pairs(true));
        s.due("about(2)", x.about(2), 1);
        s.due("reading(0, 0)", x.reading(0, 0), 2);
        s.due("word(0, 4), not written anew", x.word(0, 4), 2);
        s.yes("pairs(false)", x.pairs(false));
        s.due("about(2)", x.about(2), 0);
        s.due("reading(0, 0)", x.reading(0, 0), 3);
        s.due("about(5)", x.about(5), 3);
        s.yes("undo()", x.undo());
        s.due("about(2)", x.about(2), 1);
        s.of(18, "false if it is so already.");
        OddColumns y = Sentences.busy();
        s.denied(y, "pairs(false)", () -> y.pairs(false));
        y.pairs(true);
        y.write(0, 1);
        y.undo();
        s.denied(y, "pairs(true)", () -> y.pairs(true));
        OddColumns told = s.made("pairs;");
        s.denied(told, "pairs(true)", () -> told.pairs(true));
    }

    private void better() {
        s.of(19, "The BEST CHANGE is made: how many threes are MISSED then;");
        for (String text : new String[] {"data 4;", "data 6; checks 6;", "data 4; checks 8;", "data 24; checks 8;"}) {
            OddColumns x = s.made(text);
            x.slip(0, 0);
            int place = x.change(0);
            int column = x.change(1);
            int missed = x.change(2);
            s.due("there is one of " + text, place >= 0 ? 1 : 0, 1);
            s.due("better() of " + text, x.better(), missed);
            s.due("columnOf(" + place + ")", x.columnOf(place), column);
            s.due("threes(0)", x.threes(0), missed);
            s.due("about(5)", x.about(5), 2);
            s.due("about(4)", x.about(4), 0);
        }
        s.of(19, "NONE if there is none.");
        for (String text : new String[] {"", "data 11;", "data 4; checks 4;"}) {
            OddColumns x = s.made(text);
            x.slip(0, 0);
            x.write(1, 1);
            x.undo();
            s.refused(x, "better() of " + text, x::better);
        }
        OddColumns x = s.made("data 6; checks 6;");
        int changes = 0;
        while (changes < 100 && x.better() != NONE) {
            changes++;
        }
        s.due("some were made, then none", changes > 0 && changes < 100 ? 1 : 0, 1);
    }

    // ---------------------------------------------------------------- undo, redo

    private void undo() {
        s.of(20, "UNDO: true;");
        OddColumns x = new OddColumns();
        for (int i = 1; i <= 13; i++) {
            x.write(0, i);
        }
        for (int i = 12; i >= 1; i--) {
            s.yes("undo()", x.undo());
            s.due("word(0, 0)", x.word(0, 0), i);
            s.due("about(5)", x.about(5), i - 1);
            s.due("about(6)", x.about(6), 13 - i);
        }
        s.of(20, "false if there is none.");
        s.denied(x, "undo() of the 13th", x::undo);
        OddColumns y = new OddColumns();
        s.denied(y, "undo() of a new one", y::undo);
        y.write(0, 1);
        y.undo();
        s.denied(y, "undo() again", y::undo);
        y.redo();
        y.image(0);
        y.back(0);
        s.denied(y, "undo() behind back", y::undo);
        y.write(0, 1);
        y.code();
        s.denied(y, "undo() behind code", y::undo);
        y.mend(16);
        y.write(0, 256);
        s.denied(y, "undo() behind what was refused", y::undo);
    }

    private void redo() {
        s.of(21, "REDO: true;");
        OddColumns x = new OddColumns();
        for (int i = 1; i <= 15; i++) {
            x.write(0, i);
        }
        for (int i = 1; i <= 12; i++) {
            x.undo();
        }
        s.due("about(6)", x.about(6), 12);
        for (int i = 4; i <= 15; i++) {
            s.yes("redo()", x.redo());
            s.due("word(0, 0)", x.word(0, 0), i);
        }
        s.due("about(5)", x.about(5), 12);
        s.of(21, "false if there is none.");
        s.denied(x, "redo() of all", x::redo);
        OddColumns y = new OddColumns();
        s.denied(y, "redo() of a new one", y::redo);
        y.write(0, 1);
        s.denied(y, "redo() without undo", y::redo);
        y.undo();
        y.mend(0);
        s.denied(y, "redo() behind another act", y::redo);
        y.undo();
        y.image(0);
        y.back(0);
        s.denied(y, "redo() behind back", y::redo);
        y.write(0, 1);
        y.undo();
        y.code();
        s.denied(y, "redo() behind code", y::redo);
        y.write(0, 1);
        y.undo();
        y.write(0, 256);
        y.pairs(false);
        y.better();
        y.way(3);
        s.yes("redo() behind what was refused", y.redo());
    }
}
