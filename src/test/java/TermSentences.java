import java.util.List;

/** 'Terms', what PLACES, READINGS, ACTS, counts are: each sentence has a test of its own. */
final class TermSentences {
    private static final int TERMS = Sentences.TERMS;
    private static final int NONE = Sentences.NONE;
    private final Sentences s;

    TermSentences(Sentences s) {
        this.s = s;
    }

    void all() {
        places();
        columns();
        wayFirst();
        wayBalanced();
        wayPaired();
        wires();
        words();
        readings();
        rightAndWrong();
        stuckStay();
        stuckAlone();
        stuckBoth();
        writeAndPart();
        mendAndSlips();
        tallies();
        storms();
        acts();
        undone();
        sets();
        bestChange();
        sharedGates();
        rowsJoin();
        chips();
        bestExchange();
        constants();
    }

    // ---------------------------------------------------------------- places and columns

    private void places() {
        s.of(TERMS, "PLACES 0 .. DATA - 1 are of data, CHECKS behind them (all: N).");
        OddColumns x = new OddColumns();
        s.due("code()", Sentences.give(x, "data 4; checks 8;"), 12);
        s.columnsAre(x, 7, 11, 13, 14, 1, 2, 4, 8, 16, 32, 64, 128, NONE);
        s.no("column(4, 19)", x.column(4, 19));
        s.yes("column(3, 19)", x.column(3, 19));
        s.due("slip(0, 3)", x.slip(0, 3), 1);
        s.due("word(0, 0)", x.word(0, 0), 8);
        s.due("slip(0, 4)", x.slip(0, 4), 1);
        s.due("word(0, 1)", x.word(0, 1), 1);
        s.due("slip(0, 11)", x.slip(0, 11), 1);
        s.due("word(0, 1)", x.word(0, 1), 129);
        s.none("slip(0, 12)", x.slip(0, 12));
        // As many as there can be: the last one is the highest bit of a number.
        s.due("code()", Sentences.give(x, "data 24; checks 8;"), 32);
        s.due("columnOf(31)", x.columnOf(31), 128);
        s.due("slip(0, 31)", x.slip(0, 31), 1);
        s.due("word(0, 0)", x.word(0, 0), 0);
        s.due("word(0, 1)", x.word(0, 1), 128);
        s.none("columnOf(32)", x.columnOf(32));
    }

    private void columns() {
        s.of(TERMS, "A COLUMN is a number of CHECKS bits (ROWS):");
        for (int checks = 4; checks <= 8; checks++) {
            OddColumns x = s.made("data 4; checks " + checks + ";");
            int widest = 7 << checks - 3;
            s.due("column(0, " + widest + ")", x.column(0, widest) ? 1 : 0, checks == 4 ? 0 : 1);
            s.no("column(0, " + widest * 2 + ")", x.column(0, widest * 2));
            s.due("row(checks - 1, 0)", x.row(checks - 1, 0), checks == 4 ? 3 : 1);
            s.none("row(checks, 0)", x.row(checks, 0));
        }
        s.of(TERMS, "of the i-th check 2 to the power of i;");
        for (int checks = 4; checks <= 8; checks++) {
            OddColumns x = s.made("data 4; checks " + checks + ";");
            int column = 1;
            for (int i = 0; i < checks; i++) {
                s.due("columnOf(4 + " + i + ")", x.columnOf(4 + i), column);
                column *= 2;
            }
        }
        s.of(TERMS, "of data one with an odd number of ones, 3 at least, no two the same.");
        for (int checks = 5; checks <= 8; checks++) {
            OddColumns x = s.made("data 4; checks " + checks + ";");
            for (int column = -3; column < 300; column++) {
                int ones = Integer.bitCount(column);
                boolean isTaken = column == 7 || column == 11 || column == 13 || column == 14;
                boolean isOfData = column >= 0 && column < 1 << checks && ones >= 3 && ones % 2 == 1;
                s.due("column(0, " + column + ")", x.column(0, column) ? 1 : 0, isOfData && !isTaken ? 1 : 0);
                if (isOfData && !isTaken) {
                    x.undo();
                }
            }
        }
    }

    private void wayFirst() {
        s.of(TERMS, "WAYS: first: the least, by how many ones they have, then by number.");
        s.columnsAre(s.made("data 4; checks 4; way first;"), 7, 11, 13, 14, 1);
        s.columnsAre(s.made("data 11; way first;"), 7, 11, 13, 14, 19, 21, 22, 25, 26, 28, 31, 1);
        // 56, the last with three ones, is ahead of 31, the first with five.
        s.columnsAre(s.made("data 24; checks 6; way first;"), 7, 11, 13, 14, 19, 21, 22, 25, 26, 28,
            35, 37, 38, 41, 42, 44, 49, 50, 52, 56, 31, 47, 55, 59, 1);
    }

    private void wayBalanced() {
        s.of(TERMS, "balanced: place by place, of those COLUMNS not taken yet with the fewest ones (of all not taken)");
        // Rows that 31, of five ones, would leave as even as any come last still.
        s.due("columnOf(10)", s.made("data 11; way balanced;").columnOf(10), 31);
        OddColumns x = s.made("data 24; checks 6; way balanced;");
        for (int place = 0; place < 24; place++) {
            s.due("ones of place " + place, Integer.bitCount(x.columnOf(place)), place < 20 ? 3 : 5);
        }
        s.of(TERMS, "that by which the greatest number of WIRES of a ROW is least, of like ones the least number.");
        // 7: all are like. 56: its rows have no wire yet. 11: all give two. 52: rows 2, 4, 5 have one each.
        s.columnsAre(s.made("data 4; checks 6; way balanced;"), 7, 56, 11, 52);
        s.columnsAre(s.made("way balanced;"), 7, 11, 28, 13, 14, 19, 21, 26, 1);
        sizesAsPlain(1);
    }

    private void sizesAsPlain(int way) {
        String[] names = {"first", "balanced", "paired"};
        for (int checks = 4; checks <= 8; checks++) {
            for (int data = 4; data <= 24; data++) {
                String text = "data " + data + "; checks " + checks + "; way " + names[way] + ";";
                List<Integer> columns = PlainModel.choose(data, checks, way);
                OddColumns x = new OddColumns();
                s.due("code() of " + text, Sentences.give(x, text), columns == null ? NONE : data + checks);
                for (int place = 0; columns != null && place < data; place++) {
                    s.due("columnOf(" + place + ") of " + text, x.columnOf(place), columns.get(place));
                }
            }
        }
    }

    private void wayPaired() {
        s.of(TERMS, "paired: place by place the first COLUMN (as in first) that is not taken, so that all XORS of"
            + " places side by side (checks, too) are unlike");
        // 7 ^ 11 is 12, that of checks 2 and 3; 13 ^ 11 is 6, of checks 1 and 2; 13 ^ 14 is 3; 19 ^ 14 is 29.
        s.columnsAre(s.made("data 4; way paired;"), 7, 13, 19, 14, 1);
        sizesAsPlain(2);
        s.of(TERMS, ", and all can be so; by trying, place by place, going back:");
        // Alone, 7 13 19 11 would do, too, but for 11 ^ 19 = 24, of checks 3 and 4.
        OddColumns x = s.made("data 10; way paired;");
        s.due("twos(2)", x.twos(2), 1);
        s.columnsAre(s.made("way paired;"), 7, 13, 19, 14, 11, 28, 21, 26, 1);
        s.of(TERMS, "no more than 20,000 COLUMNS are tried (one that is taken already is not tried; else none can be chosen).");
        s.fault("data 11; way paired;", 4, 20);
        s.fault("data 20; checks 6; way paired;", 4, 30);
        x = s.made("data 20; checks 6;");
        s.no("way(2)", x.way(2));
        s.columnsAre(x, 7, 11, 13, 14, 19);
    }

    private void wires() {
        s.of(TERMS, "WIRES of a ROW: how many places of data have it.");
        // 7, 11, 13, 14: three have each of rows 0 to 3; the checks' own are none of data.
        OddColumns x = s.made("data 4; checks 5;");
        int[] wires = {3, 3, 3, 3, 0};
        for (int row = 0; row < 5; row++) {
            s.due("row(" + row + ", 0)", x.row(row, 0), wires[row]);
        }
    }

    private void words() {
        s.of(TERMS, "A WORD has N bits; MEANT: what was written last (0 at first; the bits of checks: of each ROW the"
            + " XOR of those places of data that have it).");
        OddColumns x = new OddColumns();
        for (int word = 0; word < 16; word++) {
            s.due("word(" + word + ", 3)", x.word(word, 3), 0);
            s.due("word(" + word + ", 4)", x.word(word, 4), 0);
        }
        x.write(3, 1 + 2 + 128);
        s.due("word(3, 3)", x.word(3, 3), 131);
        s.due("word(3, 1)", x.word(3, 1), 7 ^ 11 ^ 25);
        x.burst(3, 0, 8);
        x.mend(3);
        s.due("word(3, 3)", x.word(3, 3), 131);
        x.write(3, 4);
        s.due("word(3, 3)", x.word(3, 3), 4);
        s.of(TERMS, "SYNDROME: the XOR of COLUMNS of all places with a 1.");
        x = new OddColumns();
        s.due("word(0, 2)", x.word(0, 2), 0);
        int xor = 0;
        int[] columns = {7, 11, 13, 14, 19, 21, 22, 25, 1, 2, 4, 8, 16};
        for (int place = 0; place < 13; place++) {
            x.slip(0, place);
            xor ^= columns[place];
            s.due("word(0, 2)", x.word(0, 2), xor);
        }
        s.due("word(1, 2)", x.word(1, 2), 0);
    }

    // ---------------------------------------------------------------- readings

    private void slips(OddColumns x, int word, int... places) {
        for (int place : places) {
            x.slip(word, place);
        }
    }

    private void readings() {
        s.of(TERMS, "A READING: SYNDROME 0: CLEAN (0);");
        OddColumns x = s.made("word 1 9;");
        s.readingIs(x, 0, 0, NONE, 0, 1);
        s.readingIs(x, 1, 0, NONE, 9, 1);
        // 7 ^ 11 ^ 13 ^ 1 is 0: it looks clean.
        slips(x, 0, 0, 1, 2, 8);
        s.readingIs(x, 0, 0, NONE, 7, 0);
        s.of(TERMS, "a COLUMN of a place: that place is MENDED (1);");
        x = s.made("word 0 170;");
        for (int place = 0; place < 13; place++) {
            x.slip(0, place);
            s.readingIs(x, 0, 1, place, 170, 1);
            x.slip(0, place);
        }
        s.of(TERMS, "else, if PAIRS are mended and it is the XOR of places side by side (the first such two): both are MENDED (2);");
        x = s.made("pairs; word 0 170;");
        int[] first = {0, 1, 2, 3, 1, 2, 6, 7, 2, 1, 0, 7};
        for (int place = 0; place < 12; place++) {
            x.burst(0, place, 2);
            int data = (170 ^ 3 << place ^ 3 << first[place]) & 255;
            s.readingIs(x, 0, 2, first[place], data, first[place] == place ? 1 : 0);
            x.burst(0, place, 2);
        }
        s.of(TERMS, "else it has an even number of ones: DOUBLE (3), an odd one: ODD (4);");
        x = new OddColumns();
        x.burst(0, 0, 2);
        s.readingIs(x, 0, 3, NONE, NONE, NONE);
        // 7 ^ 11 ^ 22 is 26, 7 ^ 11 ^ 16 is 28, all checks 31: columns of nobody.
        slips(x, 1, 0, 1, 6);
        slips(x, 2, 0, 1, 12);
        x.burst(3, 8, 5);
        for (int word = 1; word < 4; word++) {
            s.readingIs(x, word, 4, NONE, NONE, NONE);
        }
        x.pairs(true);
        s.readingIs(x, 1, 4, NONE, NONE, NONE);
        // 7 ^ 13 is 10, of no two side by side.
        slips(x, 4, 0, 2);
        s.readingIs(x, 4, 3, NONE, NONE, NONE);
        s.of(TERMS, "these are TOLD: nothing is mended.");
        for (int word : new int[] {1, 4}) {
            int bits = x.word(word, 0);
            s.due("mend(" + word + ")", x.mend(word), word == 1 ? 4 : 3);
            s.due("word(" + word + ", 0)", x.word(word, 0), bits);
        }
    }

    private void rightAndWrong() {
        s.of(TERMS, "It is RIGHT, if what comes of 0 to 2, 5 is what is MEANT (of all places), WRONG if not.");
        OddColumns x = s.made("pairs;");
        s.due("0, RIGHT", x.reading(0, 3), 1);
        slips(x, 0, 0, 1, 2, 8);
        s.due("0, WRONG", x.reading(0, 3), 0);
        x.slip(1, 12);
        s.due("1, RIGHT", x.reading(1, 3), 1);
        x.burst(1, 0, 3);
        x.slip(1, 12);
        s.due("1, WRONG", x.reading(1, 3), 0);
        x.burst(2, 7, 2);
        s.due("2, RIGHT", x.reading(2, 3), 1);
        x.burst(3, 11, 2);
        s.due("2, WRONG", x.reading(3, 3), 0);
        x.stick(4, 0, 1);
        s.due("5, RIGHT", x.reading(4, 3), 1);
        slips(x, 4, 1, 2, 8);
        x.slip(4, 9);
        // 7 is stuck; 7 ^ 11 ^ 13 ^ 1 ^ 2 is 2.
        s.due("1, WRONG beside a stuck one", x.reading(4, 3), 0);
        x.stick(5, 3, 0);
        slips(x, 5, 0, 1, 2, 8);
        x.slip(5, 9);
        x.slip(5, 10);
        // 2 ^ 4 is 6, 6 ^ 14 is 8: the stuck one, which is right, is turned.
        s.due("reading(5, 0)", x.reading(5, 0), 5);
        s.due("5, WRONG", x.reading(5, 3), 0);
        x.burst(6, 3, 2);
        x.pairs(false);
        s.due("reading(6, 0)", x.reading(6, 0), 3);
        s.none("TOLD", x.reading(6, 3));
    }

    private void stuckStay() {
        s.of(TERMS, "STUCK are two places at most of a WORD:");
        OddColumns x = new OddColumns();
        s.yes("stick(0, 5, 1)", x.stick(0, 5, 1));
        s.yes("stick(0, 2, 1)", x.stick(0, 2, 1));
        s.no("stick(0, 3, 1)", x.stick(0, 3, 1));
        s.yes("stick(1, 3, 1)", x.stick(1, 3, 1));
        s.of(TERMS, "whatever is written there, or SLIPS, they stay as they are (that they are so is known).");
        x = new OddColumns();
        x.stick(0, 5, 1);
        x.stick(0, 12, 1);
        x.write(0, 0);
        s.due("word(0, 0)", x.word(0, 0), 32);
        s.due("word(0, 1)", x.word(0, 1), 16);
        s.due("word(0, 3)", x.word(0, 3), 0);
        s.due("word(0, 4)", x.word(0, 4), 2);
        s.due("slip(0, 5)", x.slip(0, 5), 1);
        x.burst(0, 4, 3);
        s.due("word(0, 0)", x.word(0, 0), 16 + 32 + 64);
        x.burst(0, 4, 3);
        s.due("mend(0)", x.mend(0), 5);
        s.due("word(0, 0)", x.word(0, 0), 32);
        s.due("part(0, 33, 1)", x.part(0, 33, 1), 5);
        s.due("word(0, 0)", x.word(0, 0), 33);
        s.due("word(0, 3)", x.word(0, 3), 1);
        // 7 is even in row 4, where the check is stuck at 1.
        s.due("word(0, 1)", x.word(0, 1), 7 | 16);
        x.way(1);
        s.due("word(0, 0)", x.word(0, 0), 33);
        // Draws from 0: word 7, place 9.
        x.stick(7, 9, 0);
        x.storm(0, 1, 0);
        s.due("word(7, 4)", x.word(7, 4), 0);
    }

    private void stuckAlone() {
        s.of(TERMS, "A READING of a WORD with STUCK places: SYNDROME 0: CLEAN;");
        OddColumns x = new OddColumns();
        x.stick(0, 0, 0);
        s.readingIs(x, 0, 0, NONE, 0, 1);
        x.stick(0, 1, 0);
        s.readingIs(x, 0, 0, NONE, 0, 1);
        // Off in all four of 7, 11, 13, 1.
        x.stick(1, 0, 1);
        slips(x, 1, 1, 2, 8);
        s.readingIs(x, 1, 0, NONE, 7, 0);
        s.of(TERMS, "else, with one STUCK alone: is it, as it is, a COLUMN of another place, that is MENDED (1);");
        x = new OddColumns();
        x.stick(0, 3, 0);
        for (int place = 0; place < 13; place++) {
            if (place != 3) {
                x.slip(0, place);
                s.readingIs(x, 0, 1, place, 0, 1);
                x.slip(0, place);
            }
        }
        s.of(TERMS, "is it so with the STUCK one turned: both are turned, HEALED;");
        x = new OddColumns();
        x.stick(0, 3, 1);
        for (int place = 0; place < 13; place++) {
            if (place != 3) {
                x.slip(0, place);
                s.readingIs(x, 0, 5, place, 0, 1);
                x.slip(0, place);
            }
        }
        s.of(TERMS, "else as without STUCK ones (but with one alone a COLUMN is looked for no more).");
        x = new OddColumns();
        x.stick(0, 0, 0);
        // 14 ^ 19 is 29, which with 7 is 26, of nobody.
        x.burst(0, 3, 2);
        s.readingIs(x, 0, 3, NONE, NONE, NONE);
        x.pairs(true);
        s.readingIs(x, 0, 2, 3, 0, 1);
        // 13 ^ 22 ^ 1 is 26.
        x.stick(1, 0, 0);
        slips(x, 1, 2, 6, 8);
        s.readingIs(x, 1, 4, NONE, NONE, NONE);
        // 7 ^ 8 is 15, which is of places 6, 7; but 15 ^ 7 is a column.
        x.stick(2, 0, 0);
        x.burst(2, 6, 2);
        s.readingIs(x, 2, 5, 11, 193, 0);
    }

    private void stuckBoth() {
        s.of(TERMS, "else, is it 0 with the lower one turned, with the other one, with both (in this order; of one"
            + " alone with that): that is HEALED (5);");
        OddColumns x = new OddColumns();
        x.stick(0, 9, 1);
        x.stick(0, 4, 0);
        s.readingIs(x, 0, 5, NONE, 0, 1);
        x.write(0, 16);
        // Both are off now: place 4, and place 9, as 19 has row 1.
        s.due("word(0, 4)", x.word(0, 4), 1);
        s.readingIs(x, 0, 5, NONE, 16, 1);
        x.write(0, 16 + 1);
        // 19 ^ 7 is 20: the check of row 1 is due to be 0.
        s.due("word(0, 4)", x.word(0, 4), 2);
        s.readingIs(x, 0, 5, NONE, 17, 1);
        x.stick(1, 4, 1);
        s.readingIs(x, 1, 5, NONE, 0, 1);
        x.stick(2, 12, 1);
        s.readingIs(x, 2, 5, NONE, 0, 1);
        // With two the other ones are as without: a column, two side by side, DOUBLE, ODD.
        x = s.made("pairs;");
        x.stick(0, 0, 0);
        x.stick(0, 1, 0);
        x.slip(0, 5);
        s.readingIs(x, 0, 1, 5, 0, 1);
        x.slip(0, 5);
        x.burst(0, 3, 2);
        s.readingIs(x, 0, 2, 3, 0, 1);
        x.pairs(false);
        s.readingIs(x, 0, 3, NONE, NONE, NONE);
        x.burst(0, 3, 2);
        slips(x, 0, 2, 6, 8);
        s.readingIs(x, 0, 4, NONE, NONE, NONE);
        // One of the two side by side is stuck: it is read as turned, but stays.
        x = s.made("pairs;");
        x.stick(0, 3, 1);
        x.stick(0, 0, 0);
        x.slip(0, 4);
        s.readingIs(x, 0, 2, 3, 0, 1);
        s.due("mend(0)", x.mend(0), 2);
        s.due("word(0, 0)", x.word(0, 0), 8);
    }

    // ---------------------------------------------------------------- acts

    private void writeAndPart() {
        s.of(TERMS, "WRITE: all of a WORD.");
        OddColumns x = s.made("word 0 255;");
        x.burst(0, 5, 8);
        x.write(0, 1);
        s.due("word(0, 0)", x.word(0, 0), 1);
        s.due("word(0, 1)", x.word(0, 1), 7);
        s.due("word(0, 3)", x.word(0, 3), 1);
        s.of(TERMS, "PART: a READING of it first; if that is TOLD, it is REFUSED, and nothing happens (no TALLY);");
        x = Sentences.busy();
        slips(x, 8, 0, 1);
        slips(x, 9, 0, 1, 12);
        x.write(10, 1);
        x.undo();
        OddColumns y = x;
        s.still(y, "part(8, 255, 1)", () -> y.part(8, 255, 1), 3);
        s.still(y, "part(9, 255, 1)", () -> y.part(9, 255, 1), 4);
        s.of(TERMS, "else those bits of data that are in the mask are what is told, the others what was read;");
        x = s.made("word 0 240; word 1 240; word 2 240; word 3 240;");
        s.due("part(0, 60, 15)", x.part(0, 60, 15), 0);
        s.due("word(0, 0)", x.word(0, 0), 0xCC);
        x.slip(1, 1);
        s.due("part(1, 60, 15)", x.part(1, 60, 15), 1);
        s.due("word(1, 0)", x.word(1, 0), 0xCC);
        s.due("part(2, 0, 255)", x.part(2, 0, 255), 0);
        s.due("word(2, 0)", x.word(2, 0), 240);
        s.due("part(3, 255, 255)", x.part(3, 255, 255), 0);
        s.due("word(3, 0)", x.word(3, 0), 255);
        s.of(TERMS, "MEANT likewise (of what was MEANT); and that is written.");
        // 7 ^ 11 ^ 13 is 1: place 8 is mended, which was right; 0, 1, 2 stay off.
        x = s.made("word 0 240;");
        x.burst(0, 0, 3);
        s.due("part(0, 9, 8)", x.part(0, 9, 8), 1);
        s.due("word(0, 0)", x.word(0, 0), 240 + 8 + 4 + 2);
        s.due("word(0, 3)", x.word(0, 3), 240 + 8);
        s.due("word(0, 1)", x.word(0, 1), 19 ^ 21 ^ 22 ^ 25 ^ 14 ^ 13 ^ 11);
        s.due("word(0, 2)", x.word(0, 2), 0);
        // 11 ^ 13 is 6: two more checks are off.
        s.due("word(0, 4)", x.word(0, 4), 4);
    }

    private void mendAndSlips() {
        s.of(TERMS, "MEND: a READING, what came of it is written back (not if it is TOLD; MEANT stays).");
        OddColumns x = s.made("word 0 9; word 1 9; word 2 9;");
        x.slip(0, 12);
        x.mend(0);
        s.due("word(0, 4)", x.word(0, 4), 0);
        x.burst(1, 0, 2);
        x.mend(1);
        s.due("word(1, 0)", x.word(1, 0), 9 ^ 3);
        s.due("word(1, 3)", x.word(1, 3), 9);
        x.burst(2, 0, 3);
        x.mend(2);
        s.due("word(2, 0)", x.word(2, 0), 9 ^ 7);
        s.due("word(2, 3)", x.word(2, 3), 9);
        s.due("word(2, 4)", x.word(2, 4), 4);
        s.of(TERMS, "SCRUB: MEND of all WORDS, from 0 on.");
        x = new OddColumns();
        for (int word = 0; word < 16; word++) {
            x.slip(word, word % 13);
        }
        s.due("scrub()", x.scrub(), 16);
        s.due("about(3)", x.about(3), 0);
        s.of(TERMS, "SLIP: a place of a WORD is turned.");
        for (int place = 0; place < 13; place++) {
            s.due("slip(0, " + place + ")", x.slip(0, place), 1);
            s.due("word(0, 4)", x.word(0, 4), 1);
            s.due("slip(0, " + place + ")", x.slip(0, place), 0);
        }
        s.of(TERMS, "A BURST: so many places side by side from one on are turned.");
        for (int n = 1; n <= 8; n++) {
            x = new OddColumns();
            x.burst(5, 3, n);
            int turned = (1 << n) - 1 << 3;
            s.due("word(5, 0)", x.word(5, 0), turned & 255);
            s.due("word(5, 1)", x.word(5, 1), turned >> 8);
        }
    }

    private void tallies() {
        s.of(TERMS, "TALLIES: CLEAN, ones, twos MENDED, DOUBLE, ODD, HEALED by all READINGS of PART, MEND, SCRUB;");
        // Words 0 clean, 1 one, 2 DOUBLE, 3 ODD, 4 HEALED; then, with PAIRS, 2 is two MENDED.
        for (int by = 0; by < 3; by++) {
            OddColumns x = new OddColumns();
            x.slip(1, 0);
            slips(x, 2, 3, 4);
            slips(x, 3, 0, 1, 6);
            x.stick(4, 0, 1);
            readFive(x, by);
            int clean = by == 2 ? 12 : 1;
            int told = by == 0 ? 0 : 1;
            s.talliesAre(x, clean, 1, 0, told, told, 1, 0, 6);
            x.pairs(true);
            readOne(x, by, 2);
            s.due("tally(2)", x.tally(2), 1);
        }
        OddColumns x = new OddColumns();
        x.slip(1, 0);
        x.reading(1, 0);
        x.stands(1, 0);
        x.would(0, 9, 1);
        x.worst(9, 1, 0);
        x.interval(0, 9);
        s.talliesAre(x, 0, 0, 0, 0, 0, 0, 0, 1);
        s.of(TERMS, "of those that were not TOLD how many were WRONG.");
        x = new OddColumns();
        slips(x, 1, 0, 1);
        x.mend(1);
        slips(x, 2, 0, 1, 6);
        x.mend(2);
        s.due("tally(6), TOLD alone", x.tally(6), 0);
        x.burst(3, 0, 3);
        x.mend(3);
        s.due("tally(6), a WRONG one", x.tally(6), 1);
        x.mend(3);
        s.due("tally(6), CLEAN and WRONG", x.tally(6), 2);
        x.part(3, 1, 1);
        s.due("tally(6), PART", x.tally(6), 3);
        x.scrub();
        s.due("tally(6), SCRUB", x.tally(6), 4);
        x.slip(5, 0);
        x.mend(5);
        s.due("tally(6), a RIGHT one", x.tally(6), 4);
    }

    private static void readFive(OddColumns x, int by) {
        for (int word = 0; word < (by == 2 ? 1 : 5); word++) {
            readOne(x, by, word);
        }
    }

    private static void readOne(OddColumns x, int by, int word) {
        switch (by) {
            case 0: x.part(word, 0, 0); break;
            case 1: x.mend(word); break;
            default: x.scrub(); break;
        }
    }

    private void storms() {
        s.of(TERMS, "A STORM: a seed becomes its 137-fold and 71 more, modulo 10,007;");
        // 9999 is 8 less than 10007: 71 - 8 * 137 is -1025, 8982: word 6; then 9751: place 1.
        OddColumns x = new OddColumns();
        x.storm(9999, 1, 0);
        s.due("word(6, 0)", x.word(6, 0), 2);
        // 73 * 137 + 71 is 10072, 65: word 1; then 8976: place 6.
        x = new OddColumns();
        x.storm(73, 1, 0);
        s.due("word(1, 0)", x.word(1, 0), 64);
        s.of(TERMS, "it modulo 16 is a WORD, again, modulo N a place of it that SLIPS;");
        // Draws from 0: 71 (word 7), 9798 (place 9 of 13, 6 of 32, 6 of 8), 1459 (word 3), 9821 (6, 29, 5).
        x = new OddColumns();
        x.storm(0, 2, 0);
        s.due("word(7, 1)", x.word(7, 1), 2);
        s.due("word(3, 0)", x.word(3, 0), 64);
        s.due("about(4)", x.about(4), 128 + 8);
        x = s.made("data 24; checks 8;");
        x.storm(0, 2, 0);
        s.due("word(7, 0)", x.word(7, 0), 64);
        s.due("word(3, 1)", x.word(3, 1), 32);
        x = s.made("data 4; checks 4;");
        x.storm(0, 2, 0);
        s.due("word(7, 1)", x.word(7, 1), 4);
        s.due("word(3, 1)", x.word(3, 1), 2);
        s.of(TERMS, "behind each so many (told; 0: never) SLIPS all is SCRUBBED.");
        int[] scrubs = {0, 6, 3, 2, 1, 1, 1, 0};
        for (int every = 0; every < 8; every++) {
            x = new OddColumns();
            x.storm(0, 6, every);
            int read = 0;
            for (int what = 0; what < 6; what++) {
                read += x.tally(what);
            }
            s.due("readings of storm(0, 6, " + every + ")", read, 16 * scrubs[every]);
        }
        // Behind the last one, too, but not behind fewer than told.
        x = new OddColumns();
        s.due("storm(0, 2, 2)", x.storm(0, 2, 2), 0);
        s.due("storm(0, 2, 3)", x.storm(0, 2, 3), 2);
    }

    private void acts() {
        s.of(TERMS, "ACTS: WRITE, PART (not REFUSED), MEND, SCRUB, SLIP, BURST, STORM, a place that is STUCK, places"
            + " that are not any more, and: another COLUMN of a place, two that change places, WAY, PAIRS, bettering");
        for (int act = 0; act < 15; act++) {
            OddColumns x = s.made("data 8; checks 6; word 0 9; word 1 17;");
            x.burst(0, 1, 3);
            x.stick(2, 0, 1);
            perform(x, act);
            s.due("about(5) behind act " + act, x.about(5), 3);
        }
        OddColumns x = new OddColumns();
        slips(x, 0, 0, 1);
        x.part(0, 1, 1);
        s.due("about(5) behind a REFUSED one", x.about(5), 2);
        s.of(TERMS, "(all WORDS are written anew then with what is MEANT, if a COLUMN changes).");
        for (int act = 9; act < 15; act++) {
            x = s.made("data 8; checks 6; word 0 9; word 1 17;");
            x.burst(0, 1, 3);
            x.stick(2, 0, 1);
            int column = x.columnOf(0) ^ x.columnOf(3);
            perform(x, act);
            boolean changes = act != 12 && act != 14;
            s.due("about(4) behind act " + act, x.about(4), changes ? 4 : 1 + 4);
            s.due("word(0, 0)", x.word(0, 0), changes ? 9 : 9 ^ 14);
            s.due("word(0, 3)", x.word(0, 3), 9);
            s.due("word(0, 1)", x.word(0, 1), changes ? x.columnOf(0) ^ x.columnOf(3) : column);
            s.due("word(1, 1)", x.word(1, 1), x.columnOf(0) ^ x.columnOf(4));
            s.due("stuck(2, 0)", x.stuck(2, 0), 0);
        }
    }

    static void perform(OddColumns x, int act) {
        switch (act) {
            case 0: x.write(0, 9); break;
            case 1: x.part(1, 0, 0); break;
            case 2: x.mend(1); break;
            case 3: x.scrub(); break;
            case 4: x.slip(3, 3); break;
            case 5: x.burst(3, 3, 5); break;
            case 6: x.storm(5, 100, 7); break;
            case 7: x.stick(0, 0, 1); break;
            case 8: x.free(2); break;
            case 9: x.column(0, 56); break;
            case 10: x.swap(0, 1); break;
            case 11: x.way(1); break;
            case 12: x.pairs(true); break;
            case 13: x.better(); break;
            default: x.way(0); break;
        }
    }

    private void undone() {
        s.of(TERMS, "UNDO takes back the latest ACT that was not, REDO does that again which was taken back last (till another ACT);");
        for (int act = 0; act < 15; act++) {
            OddColumns x = s.made("data 8; checks 6; word 0 9; word 1 17;");
            x.burst(0, 1, 3);
            x.stick(2, 0, 1);
            String ahead = seen(x);
            perform(x, act);
            String behind = seen(x);
            s.yes("undo()", x.undo());
            s.same("all ahead of act " + act, seen(x), ahead);
            s.yes("redo()", x.redo());
            s.same("all behind act " + act, seen(x), behind);
        }
        OddColumns x = new OddColumns();
        x.write(0, 1);
        x.write(0, 2);
        x.write(0, 3);
        x.undo();
        x.undo();
        s.due("word(0, 0)", x.word(0, 0), 1);
        x.redo();
        s.due("word(0, 0)", x.word(0, 0), 2);
        x.undo();
        x.write(0, 4);
        s.no("redo() behind another act", x.redo());
        x.undo();
        s.due("word(0, 0)", x.word(0, 0), 1);
        s.of(TERMS, "12 at most are kept, the oldest go.");
        x = new OddColumns();
        for (int i = 1; i <= 30; i++) {
            x.write(0, i);
            s.due("about(5)", x.about(5), Math.min(12, i));
        }
        for (int i = 1; i <= 12; i++) {
            s.yes("undo()", x.undo());
            s.due("word(0, 0)", x.word(0, 0), 30 - i);
        }
        s.no("undo() of the 13th", x.undo());
        s.due("word(0, 0)", x.word(0, 0), 18);
    }

    // Without how many acts there are to take back.
    private static String seen(OddColumns x) {
        String all = Sentences.all(x);
        return x.about(2) + all.substring(all.indexOf("columns")) + " " + x.tally(0) + " " + x.tally(1) + " " + x.tally(7);
    }

    // ---------------------------------------------------------------- counts of sets

    private void sets() {
        s.of(TERMS, "Of three places: they are MISSED, if the XOR of their COLUMNS is a COLUMN (of any place).");
        // Rows 0 1 2, 0 3 4, 0 5 6, 0 1 7. Each with its three checks is a four of XOR 0, the first and the last one with
        // the checks of 2, 7, too; of each four all threes are MISSED.
        OddColumns x = s.made("data 4; checks 8; column 0 7; column 1 25; column 2 97; column 3 131;");
        s.due("threes(0)", x.threes(0), 20);
        s.due("threes(1)", x.threes(1), 0);
        // 7 ^ 11 ^ 13 is 1, a check's; all threes of 7, 11, 13, 14 are.
        s.due("threes(1)", s.made("data 4;").threes(1), 4);
        s.of(TERMS, "Of four: UNSEEN, if it is 0.");
        s.due("fours()", x.fours(), 5);
        s.due("fours() of 7, 11, 13, 14, four rows", s.made("data 4; checks 4;").fours(), 14);
        s.of(TERMS, "Of two: MISTAKEN, if PAIRS are mended, they are not side by side, and their XOR is that of some side by side.");
        x = new OddColumns();
        s.due("twos(0)", x.twos(0), 0);
        x.pairs(true);
        s.due("twos(0)", x.twos(0), 20);
        // Four rows: 7 11 13 14 1 2 4 8: side by side 12, 6, 3, 15, 3, 6, 12; of the 28 twos 4 have each of
        // 3, 5, 6, 9, 10, 12, 15: 16 of 3, 6, 12, 15, less 7 side by side.
        s.due("twos(0)", s.made("data 4; checks 4; pairs;").twos(0), 9);
    }

    private void bestChange() {
        s.of(TERMS, "The BEST CHANGE: of a place of data to a COLUMN not taken: by which fewest threes are MISSED, if fewer than now;");
        String[] texts = {"", "data 4;", "data 6; checks 6;", "data 5; checks 7;", "data 7; way balanced;", "data 4; checks 8;"};
        for (String text : texts) {
            changeIsBest(text);
        }
        // All that there are are taken.
        s.none("change(0)", s.made("data 4; checks 4;").change(0));
        s.none("change(0)", s.made("data 11;").change(0));
        // There are some, but none is better.
        OddColumns x = s.made("data 6; checks 6;");
        for (int i = 0; i < 20; i++) {
            x.better();
        }
        s.due("columns(3, 1) > 0", x.columns(3, 1) > 0 ? 1 : 0, 1);
        s.none("change(0)", x.change(0));
        s.none("change(1)", x.change(1));
        s.none("change(2)", x.change(2));
        // To give a check another one would leave 8: it is none of data.
        x = s.made("data 4; checks 7; column 1 41; column 2 110; column 3 127;");
        s.due("threes(0)", x.threes(0), 16);
        s.due("change(2)", x.change(2), 12);
        s.of(TERMS, "of like ones the least place, then the least COLUMN.");
        // 7, 11, 13, 14 of eight rows: by rows that change places each is as good as each.
        x = s.made("data 4; checks 8;");
        int best = x.change(2);
        int[] likes = new int[4];
        int least = NONE;
        for (int place = 3; place >= 0; place--) {
            for (int column = 255; column >= 0; column--) {
                if (x.column(place, column)) {
                    if (x.threes(0) == best) {
                        likes[place]++;
                        least = column;
                    }
                    x.undo();
                }
            }
        }
        s.due("like ones are many", likes[0] > 1 ? 1 : 0, 1);
        s.due("like places are many", likes[1], likes[0]);
        s.due("change(0)", x.change(0), 0);
        s.due("change(1)", x.change(1), least);
    }

    private void changeIsBest(String text) {
        OddColumns x = s.made(text);
        int[] best = {NONE, NONE, NONE};
        int least = x.threes(0);
        for (int place = 0; place < x.about(0); place++) {
            for (int column = 0; column < 1 << x.about(1); column++) {
                if (x.column(place, column)) {
                    if (x.threes(0) < least) {
                        least = x.threes(0);
                        best = new int[] {place, column, least};
                    }
                    x.undo();
                }
            }
        }
        for (int what = 0; what < 3; what++) {
            s.due("change(" + what + ") of " + text, x.change(what), best[what]);
        }
    }

    // ---------------------------------------------------------------- gates

    private void gatesAre(OddColumns x, int plain, int with, int more, int depth) {
        s.due("gates(0)", x.gates(0), plain);
        s.due("gates(1)", x.gates(1), with);
        s.due("gates(2)", x.gates(2), more);
        s.due("gates(3)", x.gates(3), depth);
    }

    private void sharedIs(OddColumns x, int i, int lower, int other, int together, int depth) {
        s.due("shared(" + i + ", 0)", x.shared(i, 0), lower);
        s.due("shared(" + i + ", 1)", x.shared(i, 1), other);
        s.due("shared(" + i + ", 2)", x.shared(i, 2), together);
        s.due("shared(" + i + ", 3)", x.shared(i, 3), depth);
    }

    private void sharedGates() {
        s.of(TERMS, "SHARED gates: SIGNALS are the places of data, numbered as these, of depth 0; ROWS have those that are WIRES of theirs.");
        // Each two of these are together in one row alone.
        OddColumns x = s.made("data 4; checks 6; column 0 7; column 1 25; column 2 42; column 3 52;");
        gatesAre(x, 6, 6, 0, 1);
        s.of(TERMS, "As long as some two SIGNALS are together in two ROWS at least,");
        sharedIs(x, 0, NONE, NONE, NONE, NONE);
        // 7 and 11 are together in rows 0, 1, then 13 and 14 in rows 2, 3.
        x = s.made("data 4; checks 4;");
        sharedIs(x, 0, 0, 1, 2, 1);
        sharedIs(x, 1, 2, 3, 2, 1);
        sharedIs(x, 2, NONE, NONE, NONE, NONE);
        s.of(TERMS, "the two that are in most (of like ones the least lower, then the least other one) are made one SIGNAL more");
        // 0 and 1 in two rows, 2 and 3 in four.
        x = s.made("data 4; checks 6; column 0 7; column 1 11; column 2 62; column 3 61;");
        sharedIs(x, 0, 2, 3, 4, 1);
        // 1 is with 2 and with 3 in two rows, 0 with none; then 2, 3 would be in one alone.
        x = s.made("data 4; checks 7; column 0 112; column 1 7; column 2 11; column 3 13;");
        sharedIs(x, 0, 1, 2, 2, 1);
        sharedIs(x, 1, NONE, NONE, NONE, NONE);
        s.of(TERMS, "(numbered behind all, one gate, its depth one more than the deeper one's), which these ROWS have in place of both.");
        // Rows 0 to 3 have 0, 1 together; rows 0, 1, 4, 5 have 2, 3; rows 0, 1 then both new ones, 4 and 5.
        x = s.made("data 4; checks 6; column 0 31; column 1 47; column 2 55; column 3 59;");
        sharedIs(x, 0, 0, 1, 4, 1);
        sharedIs(x, 1, 2, 3, 4, 1);
        sharedIs(x, 2, 4, 5, 2, 2);
        sharedIs(x, 3, NONE, NONE, NONE, NONE);
        gatesAre(x, 14, 7, 3, 2);
        // Rows 0 to 2 have 0, 1, 2: first 0 with 1 is 4 (rows 0 1 2 3 4), then 2 with 4 is 5, of depth 2.
        x = s.made("data 4; checks 7; column 0 31; column 1 127; column 2 103; column 3 112;");
        sharedIs(x, 0, 0, 1, 5, 1);
        sharedIs(x, 1, 2, 4, 3, 2);
    }

    private void rowsJoin() {
        s.of(TERMS, "Then each ROW joins what it has, two by two: those of depth 0 first, two of a depth are one of the"
            + " next depth, one left alone goes on as one of the next depth, until one is left.");
        // Two wires: depth 1.
        s.due("gates(3)", s.made("data 4; checks 6; column 0 7; column 1 25; column 2 42; column 3 52;").gates(3), 1);
        // One of depth 0 goes on, and joins one of depth 1: depth 2.
        s.due("gates(3)", s.made("data 4; checks 4;").gates(3), 2);
        // Row 0 has three, rows 1, 3, 5 have two each, no two are together twice: three are two, then one.
        gatesAre(s.made("data 4; checks 7; column 0 7; column 1 25; column 2 97; column 3 42;"), 5, 5, 0, 2);
        // Row 0 has 0 1 2 3, where 0 and 1 are 4 (rows 0, 1) of depth 1; 2, 3 are one of depth 1, with 4 depth 2.
        OddColumns x = s.made("data 4; checks 8; column 0 7; column 1 11; column 2 49; column 3 193;");
        sharedIs(x, 0, 0, 1, 2, 1);
        s.due("gates(2)", x.gates(2), 1);
        s.due("gates(3)", x.gates(3), 2);
        // All four have rows 0 and 1: what is left of these is one of depth 2; the others have one wire each.
        gatesAre(s.made("data 4; checks 6; column 0 7; column 1 11; column 2 19; column 3 35;"), 6, 3, 3, 2);
        // One is left at once: rows 3 to 7 have one signal or none.
        s.due("gates(1)", x.gates(1), 1 + 2);
    }

    // ---------------------------------------------------------------- chips

    private void chips() {
        s.of(TERMS, "CHIPS: four places each, from 0 on (the last one what is left).");
        int[] sets = {0, 1, 3, 7, 15};
        for (int data = 4; data <= 11; data++) {
            OddColumns x = s.made("data " + data + ";");
            int places = data + 5;
            int count = (places + 3) / 4;
            for (int chip = 0; chip < count; chip++) {
                int size = Math.min(4, places - chip * 4);
                s.due("sets of chip " + chip, x.chip(chip, 0) + x.chip(chip, 1) + x.chip(chip, 2), sets[size]);
            }
            s.none("chip(" + count + ", 0)", x.chip(count, 0));
        }
        s.of(TERMS, "Of a CHIP each set of its places but none may SLIP together (of a WORD that was as it is MEANT):");
        // 7, 11, 13, 14: four ones are RIGHT, the twos are told, threes are the checks' 1, 2, 4, 8, all four 15 is told.
        OddColumns x = s.made("word 0 255;");
        chipIs(x, 0, 4, 7, 4);
        // What words are, and stuck places, change nothing of that.
        x.slip(0, 0);
        x.stick(1, 0, 1);
        chipIs(x, 0, 4, 7, 4);
        s.of(TERMS, "a READING of that is RIGHT, TOLD, or WRONG (CLEAN, too).");
        // 13 ^ 11 ^ 26 ^ 28 is 0: one four is CLEAN, and WRONG; each three is the fourth's.
        x = s.made("data 5; column 3 28; column 2 26; column 4 14; column 0 13; column 1 11;");
        chipIs(x, 0, 4, 6, 5);
        // With pairs the three twos side by side are RIGHT, of 12, 6, 3; 9, 5, 10 are told; 15 is that of 6, 7.
        chipIs(s.made("pairs;"), 0, 7, 3, 5);
    }

    private void chipIs(OddColumns x, int chip, int right, int told, int wrong) {
        s.due("chip(" + chip + ", 0)", x.chip(chip, 0), right);
        s.due("chip(" + chip + ", 1)", x.chip(chip, 1), told);
        s.due("chip(" + chip + ", 2)", x.chip(chip, 2), wrong);
    }

    private void bestExchange() {
        s.of(TERMS, "The BEST EXCHANGE: of the COLUMNS of two places of data, by which fewest sets of all CHIPS are WRONG, if fewer than now;");
        for (String text : new String[] {"", "pairs;", "data 12; checks 6;", "data 11; pairs;", "data 9; checks 7; pairs;"}) {
            exchangeIsBest(text);
        }
        noExchange("data 4; checks 4;");
        // To exchange 26 with the first check's 1 would leave 3 of 5: it is none of data.
        noExchange("data 4; checks 6; column 0 26; column 1 22; column 2 62; column 3 50;");
        // Made one by one, there is none in the end.
        OddColumns bettered = s.made("data 12; checks 6;");
        int made = 0;
        while (made < 100 && bettered.swap(bettered.exchange(0), bettered.exchange(1))) {
            made++;
        }
        s.due("some, then none", made > 0 && made < 100 ? 1 : 0, 1);
        s.none("exchange(2)", bettered.exchange(2));
        // Two side by side, with PAIRS.
        OddColumns x = s.made("data 4; pairs; column 2 22; column 3 13; column 0 14; column 1 31;");
        s.due("chip(NONE, 2)", x.chip(NONE, 2), 7);
        s.due("exchange(0)", x.exchange(0), 0);
        s.due("exchange(1)", x.exchange(1), 1);
        s.due("exchange(2)", x.exchange(2), 5);
        s.of(TERMS, "of like ones the least lower place, then the least other one.");
        x = s.made("data 11; pairs;");
        int best = x.exchange(2);
        int like = 0;
        int lower = NONE;
        int other = NONE;
        for (int a = 10; a >= 0; a--) {
            for (int b = 10; b > a; b--) {
                x.swap(a, b);
                if (x.chip(NONE, 2) == best) {
                    like++;
                    lower = a;
                    other = b;
                }
                x.undo();
            }
        }
        s.due("like ones are many", like > 1 ? 1 : 0, 1);
        s.due("exchange(0)", x.exchange(0), lower);
        s.due("exchange(1)", x.exchange(1), other);
    }

    private void noExchange(String text) {
        OddColumns x = s.made(text);
        for (int what = 0; what < 3; what++) {
            s.none("exchange(" + what + ") of " + text, x.exchange(what));
        }
    }

    private void exchangeIsBest(String text) {
        OddColumns x = s.made(text);
        int[] best = {NONE, NONE, NONE};
        int least = x.chip(NONE, 2);
        for (int a = 0; a < x.about(0); a++) {
            for (int b = a + 1; b < x.about(0); b++) {
                x.swap(a, b);
                if (x.chip(NONE, 2) < least) {
                    least = x.chip(NONE, 2);
                    best = new int[] {a, b, least};
                }
                x.undo();
            }
        }
        for (int what = 0; what < 3; what++) {
            s.due("exchange(" + what + ") of " + text, x.exchange(what), best[what]);
        }
    }

    private void constants() {
        s.of(TERMS, "The constants: NONE = -1 : There is none.");
        s.due("NONE", OddColumns.NONE, -1);
    }
}
