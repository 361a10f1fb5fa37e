/** Promises 22 to 46: each sentence has a test of its own. */
final class LookSentences {
    private static final int NONE = Sentences.NONE;
    private static final int[] NO_WORDS = Sentences.beside(0, 15);
    private final Sentences s;

    LookSentences(Sentences s) {
        this.s = s;
    }

    void all() {
        columnOf();
        row();
        rows();
        word();
        reading();
        stuck();
        stands();
        find();
        threes();
        foursAndTwos();
        change();
        gates();
        shared();
        chip();
        exchange();
        fewest();
        columns();
        would();
        worst();
        interval();
        tally();
        image();
        back();
        about();
    }

    // ---------------------------------------------------------------- the code

    private void columnOf() {
        s.of(22, "The COLUMN of a place;");
        s.columnsAre(new OddColumns(), 7, 11, 13, 14, 19, 21, 22, 25, 1, 2, 4, 8, 16);
        OddColumns wide = s.made("data 24; checks 8; column 0 254;");
        s.due("columnOf(0)", wide.columnOf(0), 254);
        s.due("columnOf(31)", wide.columnOf(31), 128);
        s.of(22, "NONE if there is none such.");
        OddColumns y = Sentences.busy();
        for (int place : Sentences.beside(0, 12)) {
            s.refused(y, "columnOf(" + place + ")", () -> y.columnOf(place));
        }
        for (int place : Sentences.beside(0, 31)) {
            s.none("columnOf(" + place + ")", wide.columnOf(place));
        }
        s.none("columnOf(8)", s.made("data 4; checks 4;").columnOf(8));
    }

    private void row() {
        s.of(23, "WIRES of a ROW (what 0)");
        // Rows 0 1 2, 0 3 4, 0 5 6, 1 3 5; row 7 has none.
        OddColumns x = s.made("data 4; checks 8; column 0 7; column 1 25; column 2 97; column 3 42;");
        int[] wires = {3, 2, 1, 2, 1, 2, 1, 0};
        for (int row = 0; row < 8; row++) {
            s.due("row(" + row + ", 0)", x.row(row, 0), wires[row]);
        }
        s.of(23, ", how many gates of two stand one behind another that make its check, at least (1: 0 for one wire, 1 for two, 2 for three, four ..; NONE for none).");
        s.none("row(7, 1)", x.row(7, 1));
        int[] depths = {NONE, 0, 1, 2, 2, 3, 3, 3, 3, 4, 4, 4, 4, 4, 4, 4, 4, 5, 5, 5, 5, 5, 5, 5, 5};
        int has = 0;
        OddColumns all = s.made("data 24; checks 8;");
        emptyRow(all);
        s.due("row(0, 0)", all.row(0, 0), 0);
        s.none("row(0, 1)", all.row(0, 1));
        for (int column = 255; column > 0 && has < 24; column -= 2) {
            if (all.column(has, column)) {
                has++;
                s.due("row(0, 0)", all.row(0, 0), has);
                s.due("row(0, 1) of " + has + " wires", all.row(0, 1), depths[has]);
            }
        }
        s.due("row(0, 0)", all.row(0, 0), 24);
        s.of(23, "NONE if there is no such ROW, or for another what.");
        OddColumns y = Sentences.busy();
        for (int row : Sentences.beside(0, 4)) {
            s.refused(y, "row(" + row + ", 0)", () -> y.row(row, 0));
            s.refused(y, "row(" + row + ", 1)", () -> y.row(row, 1));
        }
        for (int what : Sentences.beside(0, 1)) {
            s.refused(y, "row(0, " + what + ")", () -> y.row(0, what));
        }
        s.none("row(8, 0)", x.row(8, 0));
        s.none("row(4, 0)", s.made("data 4; checks 4;").row(4, 0));
    }

    // Even numbers have no part in row 0.
    private static void emptyRow(OddColumns x) {
        int place = 0;
        for (int column = 254; column > 0 && place < 24; column -= 2) {
            if (x.column(place, column)) {
                place++;
            }
        }
    }

    private void rows() {
        s.of(24, "Of all ROWS what 0: WIRES together, 1: the greatest number less the least, 2: the deepest gates.");
        // 7, 11, 13, 14: three wires of rows 0 to 3, none of the others.
        OddColumns x = s.made("data 4; checks 8;");
        s.due("rows(0)", x.rows(0), 12);
        s.due("rows(1)", x.rows(1), 3);
        s.due("rows(2)", x.rows(2), 2);
        x = s.made("data 4; checks 4;");
        s.due("rows(0)", x.rows(0), 12);
        s.due("rows(1)", x.rows(1), 0);
        x = s.made("data 4; checks 6; column 0 7; column 1 25; column 2 42; column 3 52;");
        s.due("rows(1)", x.rows(1), 0);
        s.due("rows(2)", x.rows(2), 1);
        // Twenty of three ones, four of five.
        x = s.made("data 24; checks 6; way balanced;");
        s.due("rows(0)", x.rows(0), 80);
        s.of(24, "NONE for another what.");
        OddColumns y = Sentences.busy();
        for (int what : Sentences.beside(0, 2)) {
            s.refused(y, "rows(" + what + ")", () -> y.rows(what));
        }
    }

    // ---------------------------------------------------------------- words

    private void word() {
        s.of(25, "Of a WORD what 0: its bits of data, 1: those of checks, 2: its SYNDROME, 3: what is MEANT, 4: how many places are not as they are MEANT.");
        OddColumns x = s.made("word 15 129;");
        x.slip(15, 1);
        x.slip(15, 8);
        int[] want = {131, 7 ^ 25 ^ 1, 11 ^ 1, 129, 2};
        for (int what = 0; what < 5; what++) {
            s.due("word(15, " + what + ")", x.word(15, what), want[what]);
        }
        // All places of the widest word, the sign's bit among them.
        x = s.made("data 24; checks 8;");
        for (int place = 0; place < 32; place += 8) {
            x.burst(0, place, 8);
        }
        s.due("word(0, 0)", x.word(0, 0), 16777215);
        s.due("word(0, 1)", x.word(0, 1), 255);
        s.due("word(0, 3)", x.word(0, 3), 0);
        s.due("word(0, 4)", x.word(0, 4), 32);
        // A stuck place is not as it is meant, either.
        x.stick(1, 31, 1);
        s.due("word(1, 4)", x.word(1, 4), 1);
        s.due("word(1, 2)", x.word(1, 2), 128);
        s.of(25, "NONE if there is none such, or for another what.");
        OddColumns y = Sentences.busy();
        for (int word : NO_WORDS) {
            for (int what = 0; what < 5; what++) {
                int w = what;
                s.refused(y, "word(" + word + ", " + w + ")", () -> y.word(word, w));
            }
        }
        for (int what : Sentences.beside(0, 4)) {
            s.refused(y, "word(0, " + what + ")", () -> y.word(0, what));
        }
    }

    private void reading() {
        s.of(26, "A READING of a WORD (which changes nothing; no TALLY) what 0: 0 .. 5,");
        OddColumns x = sixReadings();
        for (int word = 0; word <= 5; word++) {
            int w = word;
            for (int what = 0; what < 4; what++) {
                int h = what;
                s.still(x, "reading(" + w + ", " + h + ")", () -> x.reading(w, h), x.reading(w, h));
            }
            s.due("reading(" + w + ", 0)", x.reading(w, 0), w);
        }
        s.of(26, "1: the place that is MENDED, or the first of two (of 5: that which was turned besides STUCK ones; NONE),");
        int[] places = {NONE, 12, 3, NONE, NONE, NONE};
        for (int word = 0; word <= 5; word++) {
            s.due("reading(" + word + ", 1)", x.reading(word, 1), places[word]);
        }
        x.slip(5, 9);
        s.due("reading(5, 1)", x.reading(5, 1), 9);
        x.slip(5, 9);
        x.stick(5, 1, 1);
        s.none("reading(5, 1), both stuck", x.reading(5, 1));
        s.of(26, "2: data as read (NONE if it is TOLD),");
        OddColumns y = sixReadings();
        int[] data = {9, 9, 9, NONE, NONE, 9};
        for (int word = 0; word <= 5; word++) {
            s.due("reading(" + word + ", 2)", y.reading(word, 2), data[word]);
        }
        y.burst(0, 0, 3);
        s.due("reading(0, 2), WRONG", y.reading(0, 2), 9 ^ 7);
        s.of(26, "3: 1 RIGHT, 0 WRONG (NONE if TOLD).");
        y = sixReadings();
        int[] right = {1, 1, 1, NONE, NONE, 1};
        for (int word = 0; word <= 5; word++) {
            s.due("reading(" + word + ", 3)", y.reading(word, 3), right[word]);
        }
        y.burst(0, 0, 3);
        s.due("reading(0, 3), WRONG", y.reading(0, 3), 0);
        s.of(26, "NONE if there is none such, or for another what.");
        OddColumns z = Sentences.busy();
        for (int word : NO_WORDS) {
            for (int what = 0; what < 4; what++) {
                int h = what;
                s.refused(z, "reading(" + word + ", " + h + ")", () -> z.reading(word, h));
            }
        }
        for (int what : Sentences.beside(0, 3)) {
            s.refused(z, "reading(0, " + what + ")", () -> z.reading(0, what));
        }
    }

    // Words 0 to 5, of which 9 is meant, are read as 0 to 5.
    private OddColumns sixReadings() {
        OddColumns x = s.made("pairs; word 0 9; word 1 9; word 2 9; word 3 9; word 4 9; word 5 9;");
        x.slip(1, 12);
        x.burst(2, 3, 2);
        x.slip(3, 0);
        x.slip(3, 2);
        x.slip(4, 0);
        x.slip(4, 1);
        x.slip(4, 6);
        x.stick(5, 0, 0);
        return x;
    }

    private void stuck() {
        s.of(27, "The i-th (0, 1) place of a WORD that is STUCK, the lower one first;");
        OddColumns x = new OddColumns();
        x.stick(0, 12, 0);
        s.due("stuck(0, 0)", x.stuck(0, 0), 12);
        x.stick(0, 0, 0);
        s.due("stuck(0, 0)", x.stuck(0, 0), 0);
        s.due("stuck(0, 1)", x.stuck(0, 1), 12);
        x.stick(15, 3, 1);
        x.stick(15, 4, 1);
        s.due("stuck(15, 0)", x.stuck(15, 0), 3);
        s.due("stuck(15, 1)", x.stuck(15, 1), 4);
        x = s.made("data 24; checks 8;");
        x.stick(0, 31, 1);
        x.stick(0, 30, 1);
        s.due("stuck(0, 0)", x.stuck(0, 0), 30);
        s.due("stuck(0, 1)", x.stuck(0, 1), 31);
        s.of(27, "NONE if there is none such.");
        OddColumns y = Sentences.busy();
        s.refused(y, "stuck(0, 0)", () -> y.stuck(0, 0));
        s.refused(y, "stuck(0, 1)", () -> y.stuck(0, 1));
        s.refused(y, "stuck(4, 1)", () -> y.stuck(4, 1));
        for (int i : Sentences.beside(0, 1)) {
            s.refused(y, "stuck(3, " + i + ")", () -> y.stuck(3, i));
        }
        for (int word : NO_WORDS) {
            s.refused(y, "stuck(" + word + ", 0)", () -> y.stuck(word, 0));
        }
    }

    private void standsAre(OddColumns x, int word, int right, int told, int wrong) {
        s.due("stands(" + word + ", 0)", x.stands(word, 0), right);
        s.due("stands(" + word + ", 1)", x.stands(word, 1), told);
        s.due("stands(" + word + ", 2)", x.stands(word, 2), wrong);
    }

    private void stands() {
        s.of(28, "Were a WORD as it is MEANT, but for places that are STUCK, and did one place SLIP that is not STUCK:"
            + " of all such places how many READINGS are RIGHT (what 0), TOLD (1), WRONG (2);");
        OddColumns x = s.made("word 1 255;");
        standsAre(x, 0, 13, 0, 0);
        standsAre(x, 1, 13, 0, 0);
        // That it is off now is nothing to it.
        x.burst(1, 0, 8);
        standsAre(x, 1, 13, 0, 0);
        // One that is stuck is none of those that slip, be it right or off.
        x.stick(2, 0, 0);
        standsAre(x, 2, 12, 0, 0);
        x.stick(3, 0, 1);
        standsAre(x, 3, 12, 0, 0);
        // Two off: 12 with 19, 22, 16 is 31, 26, 28, told; with each other it is a column.
        x.stick(3, 1, 1);
        standsAre(x, 3, 0, 3, 8);
        // One off, one right: 7 with 11 more is 12: told; with pairs they are some two side by side, or told.
        x.stick(4, 0, 1);
        x.stick(4, 1, 0);
        standsAre(x, 4, 0, 11, 0);
        x.write(3, 3);
        standsAre(x, 3, 11, 0, 0);
        OddColumns y = x;
        s.still(y, "stands(3, 0)", () -> y.stands(3, 0), 11);
        s.of(28, "NONE if there is none such, or for another what.");
        OddColumns z = Sentences.busy();
        for (int word : NO_WORDS) {
            for (int what = 0; what < 3; what++) {
                int h = what;
                s.refused(z, "stands(" + word + ", " + h + ")", () -> z.stands(word, h));
            }
        }
        for (int what : Sentences.beside(0, 2)) {
            s.refused(z, "stands(0, " + what + ")", () -> z.stands(0, what));
        }
    }

    private void find() {
        s.of(29, "The place whose COLUMN it is (what 0), the first of the first two side by side whose XOR it is (1);");
        int[] columns = {7, 11, 13, 14, 19, 21, 22, 25, 1, 2, 4, 8, 16};
        int[] places = new int[300];
        int[] firsts = new int[300];
        java.util.Arrays.fill(places, NONE);
        java.util.Arrays.fill(firsts, NONE);
        for (int place = 12; place >= 0; place--) {
            places[columns[place]] = place;
            if (place < 12) {
                firsts[columns[place] ^ columns[place + 1]] = place;
            }
        }
        OddColumns x = new OddColumns();
        for (int syndrome = 0; syndrome < 300; syndrome++) {
            s.due("find(" + syndrome + ", 0)", x.find(syndrome, 0), places[syndrome]);
            s.due("find(" + syndrome + ", 1)", x.find(syndrome, 1), firsts[syndrome]);
        }
        // 24 is of 7, 8 and of 11, 12; it is so with PAIRS, too.
        s.due("find(24, 1)", x.find(24, 1), 7);
        x.pairs(true);
        s.due("find(24, 1)", x.find(24, 1), 7);
        x = s.made("data 24; checks 8;");
        s.due("find(128, 0)", x.find(128, 0), 31);
        s.due("find(192, 1)", x.find(192, 1), 30);
        s.of(29, "NONE if there is none, for another what.");
        OddColumns y = Sentences.busy();
        for (int syndrome : Sentences.beside(0, 255)) {
            s.refused(y, "find(" + syndrome + ", 0)", () -> y.find(syndrome, 0));
            s.refused(y, "find(" + syndrome + ", 1)", () -> y.find(syndrome, 1));
        }
        s.refused(y, "find(0, 0)", () -> y.find(0, 0));
        s.refused(y, "find(0, 1)", () -> y.find(0, 1));
        for (int what : Sentences.beside(0, 1)) {
            s.refused(y, "find(7, " + what + ")", () -> y.find(7, what));
            s.refused(y, "find(12, " + what + ")", () -> y.find(12, what));
        }
    }

    // ---------------------------------------------------------------- counts

    private void threes() {
        s.of(30, "How many threes are MISSED (what 0), of those of data alone (1), how many threes there are (2);");
        // All odd numbers of four bits are columns: each three is missed; of data 1, 2, 4, 8 alone.
        OddColumns x = s.made("data 4; checks 4;");
        s.due("threes(0)", x.threes(0), 56);
        s.due("threes(1)", x.threes(1), 4);
        s.due("threes(2)", x.threes(2), 56);
        x = s.made("data 4; checks 8; column 0 7; column 1 25; column 2 97; column 3 131;");
        s.due("threes(0)", x.threes(0), 20);
        s.due("threes(1)", x.threes(1), 0);
        s.due("threes(2)", x.threes(2), 220);
        s.due("threes(2)", s.made("data 24; checks 8;").threes(2), 4960);
        s.of(30, "NONE for another what.");
        OddColumns y = Sentences.busy();
        for (int what : Sentences.beside(0, 2)) {
            s.refused(y, "threes(" + what + ")", () -> y.threes(what));
        }
    }

    private void foursAndTwos() {
        s.of(31, "How many fours are UNSEEN.");
        s.due("fours()", s.made("data 4; checks 4;").fours(), 14);
        s.due("fours()", s.made("data 4; checks 8; column 0 7; column 1 25; column 2 97; column 3 131;").fours(), 5);
        s.due("fours()", new OddColumns().fours(), 55);
        // Five ones each, each two unlike in four rows at least, each three in three: nothing is unseen.
        s.due("fours()", s.made("data 4; checks 8; column 0 31; column 1 103; column 2 171; column 3 213;").fours(), 0);
        s.of(32, "How many twos are MISTAKEN (what 0),");
        OddColumns x = new OddColumns();
        s.due("twos(0) without PAIRS", x.twos(0), 0);
        x.pairs(true);
        s.due("twos(0)", x.twos(0), 20);
        s.due("twos(0)", s.made("data 4; checks 4; pairs;").twos(0), 9);
        s.of(32, "how many XORS of places side by side are of one two alone of those side by side (1),");
        // 12, 6, 3, 29, 6, 3, 15, 24, 3, 6, 12, 24: 29 and 15 alone; with PAIRS as without.
        s.due("twos(1)", x.twos(1), 2);
        x.pairs(false);
        s.due("twos(1)", x.twos(1), 2);
        // 12, 6, 3, 15, 3, 6, 12: 15 alone.
        s.due("twos(1)", s.made("data 4; checks 4;").twos(1), 1);
        x.way(2);
        s.due("twos(1)", x.twos(1), 12);
        s.of(32, "whether all are (2: 1 or 0).");
        s.due("twos(2)", x.twos(2), 1);
        x.way(0);
        s.due("twos(2)", x.twos(2), 0);
        s.due("twos(2)", s.made("data 24; checks 8; way paired;").twos(2), 1);
        s.of(32, "NONE for another what.");
        OddColumns y = Sentences.busy();
        for (int what : Sentences.beside(0, 2)) {
            s.refused(y, "twos(" + what + ")", () -> y.twos(what));
        }
    }

    private void change() {
        s.of(33, "The BEST CHANGE what 0: the place, 1: the COLUMN, 2: how many threes are MISSED then;");
        OddColumns x = s.made("data 4;");
        int place = x.change(0);
        int column = x.change(1);
        int missed = x.change(2);
        OddColumns y = x;
        for (int what = 0; what < 3; what++) {
            int h = what;
            s.still(y, "change(" + h + ")", () -> y.change(h), new int[] {place, column, missed}[h]);
        }
        s.due("fewer than now", missed < x.threes(0) ? 1 : 0, 1);
        s.yes("column(" + place + ", " + column + ")", x.column(place, column));
        s.due("threes(0)", x.threes(0), missed);
        s.of(33, "NONE if there is none, or for another what.");
        for (String text : new String[] {"", "data 11;", "data 4; checks 4;"}) {
            OddColumns z = s.made(text);
            for (int what = 0; what < 3; what++) {
                s.none("change(" + what + ") of " + text, z.change(what));
            }
        }
        OddColumns z = s.made("data 4;");
        for (int what : Sentences.beside(0, 2)) {
            s.refused(z, "change(" + what + ")", () -> z.change(what));
        }
    }

    private void gates() {
        s.of(34, "How many gates there are without sharing (what 0: of each ROW one less than WIRES, 0 at least),");
        // Four rows have three wires, the others none, then one.
        OddColumns x = s.made("data 4; checks 8;");
        s.due("gates(0)", x.gates(0), 8);
        OddColumns apart = s.made("data 4; checks 7; column 0 7; column 1 25; column 2 97; column 3 42;");
        s.due("gates(0)", apart.gates(0), 5);
        s.of(34, "with SHARED ones (1: SIGNALS more, and of each ROW one less than what it has then, 0 at least),");
        s.due("gates(1)", x.gates(1), 6);
        s.due("gates(1)", apart.gates(1), 5);
        s.due("gates(1)", s.made("data 4; checks 6; column 0 31; column 1 47; column 2 55; column 3 59;").gates(1), 7);
        s.of(34, "how many SIGNALS more (2),");
        s.due("gates(2)", x.gates(2), 2);
        s.due("gates(2)", apart.gates(2), 0);
        s.due("gates(2)", s.made("data 4; checks 6; column 0 31; column 1 47; column 2 55; column 3 59;").gates(2), 3);
        s.of(34, "how deep the deepest ROW is then (3: the depth of what is left of it; of a ROW with nothing 0).");
        s.due("gates(3)", x.gates(3), 2);
        s.due("gates(3)", apart.gates(3), 2);
        // Rows with one signal more alone, of depth 2, are the deepest.
        s.due("gates(3)", s.made("data 4; checks 6; column 0 31; column 1 47; column 2 55; column 3 59;").gates(3), 2);
        s.due("gates(3)", s.made("data 4; checks 6; column 0 7; column 1 25; column 2 42; column 3 52;").gates(3), 1);
        s.of(34, "NONE for another what.");
        OddColumns y = Sentences.busy();
        for (int what : Sentences.beside(0, 3)) {
            s.refused(y, "gates(" + what + ")", () -> y.gates(what));
        }
    }

    private void shared() {
        s.of(35, "Of the i-th SIGNAL more (0 ..) what 0: the lower SIGNAL, 1: the other one, 2: in how many ROWS they were together, 3: its depth.");
        OddColumns x = s.made("data 4; checks 6; column 0 31; column 1 47; column 2 55; column 3 59;");
        int[][] want = {{0, 1, 4, 1}, {2, 3, 4, 1}, {4, 5, 2, 2}};
        for (int i = 0; i < 3; i++) {
            for (int what = 0; what < 4; what++) {
                s.due("shared(" + i + ", " + what + ")", x.shared(i, what), want[i][what]);
            }
        }
        s.of(35, "NONE if there is none such, or for another what.");
        for (int i : Sentences.beside(0, 2)) {
            for (int what = 0; what < 4; what++) {
                int h = what;
                s.refused(x, "shared(" + i + ", " + h + ")", () -> x.shared(i, h));
            }
        }
        for (int what : Sentences.beside(0, 3)) {
            s.refused(x, "shared(0, " + what + ")", () -> x.shared(0, what));
        }
        // None at all, and behind a code that had more.
        s.due("code()", Sentences.give(x, "data 4; checks 6; column 0 7; column 1 25; column 2 42; column 3 52;"), 10);
        s.none("shared(0, 0)", x.shared(0, 0));
        OddColumns wide = s.made("data 24; checks 8;");
        int more = wide.gates(2);
        s.due("the last has a depth", wide.shared(more - 1, 3) > 0 ? 1 : 0, 1);
        s.none("shared(more, 3)", wide.shared(more, 3));
    }

    private void chip() {
        s.of(36, "Of a CHIP (NONE: of all together) how many sets of places are RIGHT (what 0), TOLD (1), WRONG (2);");
        // Chip 0 is 7, 11, 13, 14: 4, 7, 4. Chip 1 is 19, 21, 22, 25: the twos and the four, 9, are told; the
        // threes are 16, 31, 30 ^ .. : 19 ^ 21 ^ 22 is 16, 19 ^ 21 ^ 25 is 31, 19 ^ 22 ^ 25 is 28, 21 ^ 22 ^ 25 is 26.
        // Chip 2 is 1, 2, 4, 8: threes 7, 11, 13, 14. Chip 3 is 16 alone.
        OddColumns x = new OddColumns();
        int[][] want = {{4, 7, 4}, {4, 10, 1}, {4, 7, 4}, {1, 0, 0}};
        int[] sum = new int[3];
        for (int chip = 0; chip < 4; chip++) {
            for (int what = 0; what < 3; what++) {
                s.due("chip(" + chip + ", " + what + ")", x.chip(chip, what), want[chip][what]);
                sum[what] += want[chip][what];
            }
        }
        for (int what = 0; what < 3; what++) {
            s.due("chip(NONE, " + what + ")", x.chip(NONE, what), sum[what]);
        }
        s.of(36, "NONE if there is none such, or for another what.");
        OddColumns y = Sentences.busy();
        for (int what = 0; what < 3; what++) {
            int h = what;
            for (int chip : Sentences.beside(NONE, 3)) {
                s.refused(y, "chip(" + chip + ", " + h + ")", () -> y.chip(chip, h));
            }
        }
        for (int what : Sentences.beside(0, 2)) {
            s.refused(y, "chip(0, " + what + ")", () -> y.chip(0, what));
            s.refused(y, "chip(NONE, " + what + ")", () -> y.chip(NONE, what));
        }
        OddColumns wide = s.made("data 24; checks 8;");
        s.due("chip(7, 0)", wide.chip(7, 0), 4);
        s.none("chip(8, 0)", wide.chip(8, 0));
        s.none("chip(2, 0)", s.made("data 4; checks 4;").chip(2, 0));
    }

    private void exchange() {
        s.of(37, "The BEST EXCHANGE what 0: the lower place, 1: the other one, 2: how many sets are WRONG then;");
        OddColumns x = s.made("data 12; checks 6;");
        int lower = x.exchange(0);
        int other = x.exchange(1);
        int wrong = x.exchange(2);
        OddColumns y = x;
        for (int what = 0; what < 3; what++) {
            int h = what;
            s.still(y, "exchange(" + h + ")", () -> y.exchange(h), new int[] {lower, other, wrong}[h]);
        }
        s.due("the lower is lower", lower >= 0 && lower < other && other < 12 ? 1 : 0, 1);
        s.due("fewer than now", wrong < x.chip(NONE, 2) ? 1 : 0, 1);
        s.yes("swap(" + lower + ", " + other + ")", x.swap(lower, other));
        s.due("chip(NONE, 2)", x.chip(NONE, 2), wrong);
        s.of(37, "NONE if there is none, or for another what.");
        OddColumns none = s.made("data 4; checks 4;");
        for (int what = 0; what < 3; what++) {
            s.none("exchange(" + what + ")", none.exchange(what));
        }
        OddColumns z = s.made("data 12; checks 6;");
        for (int what : Sentences.beside(0, 2)) {
            s.refused(z, "exchange(" + what + ")", () -> z.exchange(what));
        }
    }

    private void fewest() {
        s.of(38, "The fewest CHECKS (4 .. 8) by which there are COLUMNS for so much data (1 .. 200);");
        OddColumns x = new OddColumns();
        // 4, 11, 26, 57, 120 of 4 to 8 checks.
        for (int data = 1; data <= 120; data++) {
            int checks = data <= 4 ? 4 : data <= 11 ? 5 : data <= 26 ? 6 : data <= 57 ? 7 : 8;
            s.due("fewest(" + data + ")", x.fewest(data), checks);
        }
        s.of(38, "NONE if by none, or for another number.");
        OddColumns y = Sentences.busy();
        for (int data = 121; data <= 200; data++) {
            s.none("fewest(" + data + ")", y.fewest(data));
        }
        for (int data : Sentences.beside(1, 200)) {
            s.refused(y, "fewest(" + data + ")", () -> y.fewest(data));
        }
    }

    private void columns() {
        s.of(39, "How many COLUMNS of data there are with so many ones (3, 5, 7; what 0), of these not taken (1);");
        int[][] all = {{4, 0, 0}, {10, 1, 0}, {20, 6, 0}, {35, 21, 1}, {56, 56, 8}};
        for (int checks = 4; checks <= 8; checks++) {
            OddColumns x = s.made("data 4; checks " + checks + ";");
            for (int i = 0; i < 3; i++) {
                int ones = 3 + 2 * i;
                int count = all[checks - 4][i];
                s.due("columns(" + ones + ", 0)", x.columns(ones, 0), count);
                s.due("columns(" + ones + ", 1)", x.columns(ones, 1), ones == 3 ? count - 4 : count);
            }
        }
        OddColumns x = s.made("data 24; checks 8; column 0 127; column 1 31;");
        s.due("columns(3, 1)", x.columns(3, 1), 56 - 22);
        s.due("columns(5, 1)", x.columns(5, 1), 55);
        s.due("columns(7, 1)", x.columns(7, 1), 7);
        s.of(39, "NONE for others.");
        OddColumns y = Sentences.busy();
        for (int ones : new int[] {Sentences.LEAST, -3, -1, 0, 1, 2, 4, 6, 8, 9, 259, Sentences.MOST}) {
            s.refused(y, "columns(" + ones + ", 0)", () -> y.columns(ones, 0));
            s.refused(y, "columns(" + ones + ", 1)", () -> y.columns(ones, 1));
        }
        for (int what : Sentences.beside(0, 1)) {
            s.refused(y, "columns(3, " + what + ")", () -> y.columns(3, what));
        }
    }

    // ---------------------------------------------------------------- storms that are not

    private void would() {
        s.of(40, "Were a STORM of n SLIPS (0 .. 200) by a seed with SCRUBS behind each so many (0 .. 50): how many WORDS were not what is MEANT then;");
        OddColumns x = Sentences.busy();
        s.due("would(0, 0, 0)", x.would(0, 0, 0), 4);
        s.due("would(9999, 0, 50)", x.would(9999, 0, 50), 4);
        for (int seed : new int[] {0, 1, 4999, 9999}) {
            for (int n : new int[] {1, 2, 50, 199, 200}) {
                for (int every : new int[] {0, 1, 2, 49, 50}) {
                    int would = x.would(seed, n, every);
                    s.due("storm(" + seed + ", " + n + ", " + every + ")", x.storm(seed, n, every), would);
                    x.undo();
                }
            }
        }
        s.of(40, "NONE if one can't be.");
        OddColumns y = Sentences.busy();
        for (int seed : Sentences.beside(0, 9999)) {
            s.refused(y, "would(" + seed + ", 1, 0)", () -> y.would(seed, 1, 0));
        }
        for (int n : Sentences.beside(0, 200)) {
            s.refused(y, "would(0, " + n + ", 0)", () -> y.would(0, n, 0));
        }
        for (int every : Sentences.beside(0, 50)) {
            s.refused(y, "would(0, 1, " + every + ")", () -> y.would(0, 1, every));
        }
        s.of(40, "(Nothing is done; so below.)");
        s.still(y, "would(9999, 200, 1)", () -> y.would(9999, 200, 1), y.would(9999, 200, 1));
        s.still(y, "worst(100, 1, 0)", () -> y.worst(100, 1, 0), y.worst(100, 1, 0));
        s.still(y, "worst(100, 1, 1)", () -> y.worst(100, 1, 1), y.worst(100, 1, 1));
        s.still(y, "interval(9999, 200)", () -> y.interval(9999, 200), y.interval(9999, 200));
    }

    private void worst() {
        s.of(41, "Of seeds 0 to 49 the STORM of n SLIPS (0 .. 100), SCRUBBED behind each so many (0 .. 50), behind which"
            + " fewest WORDS are what is MEANT, of like ones the first (what 0), how many are not (1);");
        OddColumns x = Sentences.busy();
        s.due("worst(0, 0, 0)", x.worst(0, 0, 0), 0);
        s.due("worst(0, 50, 1)", x.worst(0, 50, 1), 4);
        for (int n : new int[] {1, 2, 9, 31, 99, 100}) {
            for (int every : new int[] {0, 1, 3, 50}) {
                int seed = NONE;
                int most = NONE;
                for (int each = 49; each >= 0; each--) {
                    if (x.would(each, n, every) >= most) {
                        most = x.would(each, n, every);
                        seed = each;
                    }
                }
                s.due("worst(" + n + ", " + every + ", 0)", x.worst(n, every, 0), seed);
                s.due("worst(" + n + ", " + every + ", 1)", x.worst(n, every, 1), most);
            }
        }
        // The last seed that is looked at is the worst here; there the first one that is not would be worse.
        OddColumns last = s.made("data 5;");
        s.due("worst(41, 10, 0)", last.worst(41, 10, 0), 49);
        s.due("worst(41, 10, 1)", last.worst(41, 10, 1), 9);
        OddColumns next = s.made("data 5; checks 6;");
        s.due("would(50, 65, 4)", next.would(50, 65, 4), 8);
        s.due("worst(65, 4, 1)", next.worst(65, 4, 1), 7);
        s.of(41, "NONE if one can't be, or for another what.");
        OddColumns y = Sentences.busy();
        for (int what = 0; what < 2; what++) {
            int h = what;
            for (int n : Sentences.beside(0, 100)) {
                s.refused(y, "worst(" + n + ", 0, " + h + ")", () -> y.worst(n, 0, h));
            }
            for (int every : Sentences.beside(0, 50)) {
                s.refused(y, "worst(1, " + every + ", " + h + ")", () -> y.worst(1, every, h));
            }
        }
        for (int what : Sentences.beside(0, 1)) {
            s.refused(y, "worst(1, 0, " + what + ")", () -> y.worst(1, 0, what));
        }
    }

    private void interval() {
        s.of(42, "The greatest number of SLIPS (1 .. 50) behind each of which SCRUBBED a STORM of n SLIPS (1 .. 200) by a seed leaves all WORDS as they are MEANT;");
        OddColumns x = s.made("data 12; checks 6; pairs;");
        s.due("interval(0, 1)", x.interval(0, 1), 1);
        boolean met = false;
        for (int seed : new int[] {0, 7, 9999}) {
            for (int n : new int[] {1, 2, 3, 10, 50, 60, 199, 200}) {
                int greatest = 0;
                for (int every = 1; every <= 50; every++) {
                    greatest = x.would(seed, n, every) == 0 ? every : greatest;
                }
                s.due("interval(" + seed + ", " + n + ")", x.interval(seed, n), greatest);
                met |= greatest > 1;
            }
        }
        s.yes("some were greater than 1", met);
        // The place that slips is off already: the slip makes all as it is meant, whenever it is scrubbed.
        OddColumns twice = new OddColumns();
        twice.slip(7, 9);
        s.due("interval(0, 1)", twice.interval(0, 1), 50);
        s.of(42, "0 if by none;");
        OddColumns off = new OddColumns();
        off.burst(0, 0, 3);
        off.mend(0);
        s.due("interval(0, 1)", off.interval(0, 1), 0);
        OddColumns held = new OddColumns();
        held.stick(0, 0, 1);
        s.due("interval(0, 1)", held.interval(0, 1), 0);
        s.of(42, "NONE if one can't be.");
        OddColumns y = Sentences.busy();
        for (int seed : Sentences.beside(0, 9999)) {
            s.refused(y, "interval(" + seed + ", 1)", () -> y.interval(seed, 1));
        }
        for (int n : Sentences.beside(1, 200)) {
            s.refused(y, "interval(0, " + n + ")", () -> y.interval(0, n));
        }
    }

    // ---------------------------------------------------------------- tallies, boxes, about

    private void tally() {
        s.of(43, "TALLIES what 0: CLEAN, 1: ones, 2: twos MENDED, 3: DOUBLE, 4: ODD, 5: HEALED, 6: WRONG,");
        OddColumns x = sixReadings();
        int[] times = {1, 2, 3, 4, 5, 6};
        for (int word = 0; word <= 5; word++) {
            for (int i = 0; i < times[word]; i++) {
                x.mend(word);
                if (word == 1) {
                    x.slip(1, 12);
                } else if (word == 2) {
                    x.burst(2, 3, 2);
                }
            }
        }
        s.talliesAre(x, 1, 2, 3, 4, 5, 6, 0);
        x.burst(0, 0, 3);
        x.mend(0);
        s.talliesAre(x, 1, 3, 3, 4, 5, 6, 1);
        s.of(43, "7: places in all that were turned by SLIP, BURST, STORM (STUCK ones are not);");
        x = new OddColumns();
        x.slip(0, 0);
        x.slip(0, 0);
        s.due("tally(7)", x.tally(7), 2);
        x.burst(1, 0, 8);
        s.due("tally(7)", x.tally(7), 10);
        x.storm(0, 200, 0);
        s.due("tally(7)", x.tally(7), 210);
        x.mend(1);
        x.write(1, 255);
        x.stick(2, 0, 1);
        s.due("tally(7)", x.tally(7), 210);
        x.slip(2, 0);
        s.due("tally(7)", x.tally(7), 210);
        x.burst(2, 0, 3);
        s.due("tally(7)", x.tally(7), 212);
        x = new OddColumns();
        x.stick(7, 9, 1);
        x.storm(0, 2, 0);
        s.due("tally(7)", x.tally(7), 1);
        s.of(43, "NONE for another what.");
        OddColumns y = Sentences.busy();
        for (int what : Sentences.beside(0, 7)) {
            s.refused(y, "tally(" + what + ")", () -> y.tally(what));
        }
    }

    private void image() {
        s.of(44, "All that there is (but the TAPE) is kept in a BOX (0, 1): how many WORDS are as they are MEANT;");
        for (int box = 0; box < 2; box++) {
            OddColumns x = Sentences.busy();
            int b = box;
            s.still(x, "image(" + b + ")", () -> x.image(b), 12);
            String kept = kept(x);
            Sentences.feedText(x, "data 4;");
            x.way(1);
            x.pairs(true);
            x.scrub();
            x.storm(0, 99, 0);
            x.free(3);
            s.due("back(" + b + ")", x.back(b), 12);
            s.same("all that was kept", kept(x), kept);
        }
        OddColumns x = new OddColumns();
        s.due("image(0)", x.image(0), 16);
        for (int word = 0; word < 16; word++) {
            x.slip(word, 0);
        }
        s.due("image(0)", x.image(0), 0);
        s.of(44, "NONE if there is none such.");
        OddColumns y = Sentences.busy();
        for (int box : Sentences.beside(0, 1)) {
            s.refused(y, "image(" + box + ")", () -> y.image(box));
        }
    }

    // All but the tape, and what acts there are.
    private static String kept(OddColumns x) {
        String all = Sentences.all(x);
        StringBuilder sb = new StringBuilder(all.substring(all.indexOf("columns")));
        for (int what = 0; what < 5; what++) {
            sb.append(' ').append(x.about(what));
        }
        for (int what = 0; what < 8; what++) {
            sb.append(' ').append(x.tally(what));
        }
        return sb.toString();
    }

    private void back() {
        s.of(45, "All is as it was kept (nothing can be taken back, or done again then): likewise;");
        OddColumns x = new OddColumns();
        x.write(0, 1);
        x.image(0);
        x.write(0, 2);
        x.slip(1, 1);
        x.image(1);
        x.write(0, 3);
        x.undo();
        s.due("back(0)", x.back(0), 16);
        s.due("word(0, 0)", x.word(0, 0), 1);
        s.due("about(5)", x.about(5), 0);
        s.due("about(6)", x.about(6), 0);
        s.no("undo()", x.undo());
        s.no("redo()", x.redo());
        s.due("back(1)", x.back(1), 15);
        s.due("word(0, 0)", x.word(0, 0), 2);
        for (int ahead = 0; ahead <= 13; ahead++) {
            OddColumns y = new OddColumns();
            y.image(0);
            for (int i = 0; i < ahead; i++) {
                y.write(0, i);
            }
            y.back(0);
            s.actsGoOn("behind back(0) behind " + ahead + " acts", y);
        }
        // What is done then is nothing to what is kept.
        x.write(0, 4);
        s.due("back(1)", x.back(1), 15);
        s.due("word(0, 0)", x.word(0, 0), 2);
        // What was kept last in a box is what is in it.
        x.write(0, 5);
        x.image(1);
        s.due("back(1)", x.back(1), 15);
        s.due("word(0, 0)", x.word(0, 0), 5);
        // The tape stays.
        x.feed(0, 0, 0, 0, 0);
        x.back(0);
        s.due("about(7)", x.about(7), 20);
        s.of(45, "NONE, doing nothing, if nothing was, or there is no such BOX.");
        OddColumns y = Sentences.busy();
        s.refused(y, "back(0)", () -> y.back(0));
        for (int box : Sentences.beside(0, 1)) {
            s.refused(y, "back(" + box + ")", () -> y.back(box));
        }
        OddColumns z = new OddColumns();
        z.write(0, 1);
        z.image(0);
        s.refused(z, "back(1)", () -> z.back(1));
        s.due("back(0)", z.back(0), 16);
    }

    private void about() {
        s.of(46, "What 0: DATA, 1: CHECKS, 2: 1 if PAIRS are mended, else 0,");
        OddColumns x = s.made("data 24; checks 8; pairs;");
        s.due("about(0)", x.about(0), 24);
        s.due("about(1)", x.about(1), 8);
        s.due("about(2)", x.about(2), 1);
        x = s.made("data 4; checks 4;");
        s.due("about(0)", x.about(0), 4);
        s.due("about(1)", x.about(1), 4);
        s.due("about(2)", x.about(2), 0);
        s.of(46, "3: WORDS whose SYNDROME is not 0,");
        x = new OddColumns();
        for (int word = 0; word < 16; word++) {
            s.due("about(3)", x.about(3), word);
            x.slip(15 - word, 0);
        }
        s.due("about(3)", x.about(3), 16);
        x.scrub();
        s.due("about(3)", x.about(3), 0);
        x.burst(0, 0, 3);
        x.mend(0);
        s.due("about(3), CLEAN and WRONG", x.about(3), 0);
        s.of(46, "4: WORDS that are not what is MEANT (for STUCK places, too), as bits,");
        s.due("about(4)", x.about(4), 1);
        x.slip(15, 12);
        s.due("about(4)", x.about(4), 32769);
        x.stick(3, 0, 1);
        s.due("about(4)", x.about(4), 32768 + 8 + 1);
        x.write(3, 1);
        s.due("about(4)", x.about(4), 32769);
        x = new OddColumns();
        for (int word = 0; word < 16; word++) {
            x.slip(word, word % 13);
        }
        s.due("about(4)", x.about(4), 65535);
        s.of(46, "5: ACTS that can be taken back, 6: done again,");
        x = new OddColumns();
        for (int i = 1; i <= 14; i++) {
            x.write(0, i);
            s.due("about(5)", x.about(5), Math.min(12, i));
            s.due("about(6)", x.about(6), 0);
        }
        for (int i = 1; i <= 12; i++) {
            x.undo();
            s.due("about(5)", x.about(5), 12 - i);
            s.due("about(6)", x.about(6), i);
        }
        s.of(46, "7: bytes on the TAPE.");
        s.due("about(7)", x.about(7), 0);
        for (int i = 1; i <= 30; i++) {
            x.feed(0, 0, 0, 0, 0);
            s.due("about(7)", x.about(7), 20 * i);
        }
        x.end(7);
        s.due("about(7)", x.about(7), 7);
        x.code();
        s.due("about(7) behind a fault", x.about(7), 0);
        s.of(46, "NONE for another what.");
        OddColumns y = Sentences.busy();
        for (int what : Sentences.beside(0, 7)) {
            s.refused(y, "about(" + what + ")", () -> y.about(what));
        }
    }
}
