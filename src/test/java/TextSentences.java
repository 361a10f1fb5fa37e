/** 'Terms', what a CODE is: each sentence has a test of its own. */
final class TextSentences {
    private static final int TERMS = Sentences.TERMS;
    private static final String[] HEADS = {"data 8;", "checks 5;", "way first;", "pairs;"};
    private static final String[] BODIES = {"column 0 26;", "word 3 9;"};
    private final Sentences s;

    TextSentences(Sentences s) {
        this.s = s;
    }

    void all() {
        lengths();
        lines();
        blanksAside();
        longestTokens();
        signsOfTokens();
        sizes();
        wayAndPairs();
        onceEach();
        columnLines();
        wordLines();
        firstFault();
        placeOfFault();
        leastFault();
        faultOne();
        faultTwo();
        faultThree();
        faultFour();
    }

    private static String blanks(int n) {
        return " ".repeat(n);
    }

    private void lengths() {
        s.of(TERMS, "A CODE is a text of at most 600 bytes");
        s.good(blanks(600), 13);
        String last = "word 15 9;";
        OddColumns x = s.made("data 4;" + blanks(600 - 7 - last.length()) + last);
        s.due("word(15, 0)", x.word(15, 0), 9);
        s.fault(blanks(595) + "pairs", 1, 600);
        s.fault(blanks(599) + "x", 1, 599);
        x = new OddColumns();
        Sentences.feedText(x, blanks(600));
        s.none("feed behind 600", x.feed(0, 0, 0, 0, 0));
        s.due("code()", x.code(), 13);
    }

    private void lines() {
        s.of(TERMS, "{line}.");
        s.good("", 13);
        s.good("pairs;", 13);
        s.good("word 0 1;".repeat(66), 13);
        s.of(TERMS, "line = data N ; | checks N ; | way (first | balanced | paired) ; | pairs ; | column N N ; | word N N ;.");
        s.good("data 5;", 10);
        s.good("checks 6;", 14);
        s.columnsAre(s.made("way first;"), 7, 11, 13);
        s.columnsAre(s.made("way balanced;"), 7, 11, 28);
        s.columnsAre(s.made("way paired;"), 7, 13, 19);
        s.due("about(2)", s.made("pairs;").about(2), 1);
        s.due("columnOf(0)", s.made("column 0 26;").columnOf(0), 26);
        s.due("word(9, 0)", s.made("word 9 1;").word(9, 0), 1);
    }

    private void blanksAside() {
        s.of(TERMS, "TOKENS, blanks (32, 10) aside");
        for (int sign = 0; sign < 256; sign++) {
            String text = String.valueOf((char) sign);
            if (sign == 32 || sign == 10) {
                s.good(text, 13);
                s.good("pairs" + text + ";", 13);
            } else {
                s.fault(text, 1, 0);
                s.fault("pairs;" + text, 1, 6);
            }
        }
        s.good(" \n data \n 4 \n ; \n ", 9);
        s.good("data4;checks4;wayfirst;".replace("wayfirst", "way first"), 8);
    }

    private void longestTokens() {
        s.of(TERMS, "each as long as can be");
        s.good("data4;", 9);
        s.good("word1 2;", 13);
        s.good("data 11;", 16);
        s.fault("data 1 1;", 2, 5);
        s.fault("data 8 8;", 1, 7);
        s.fault("pai rs;", 1, 0);
        s.fault("pairspairs;", 1, 0);
        s.fault("wayfirst;", 1, 0);
        s.fault("data5pairs;", 1, 5);
        s.fault("word 12;", 1, 7);
        s.fault("data 0" + "0".repeat(500) + "25;", 2, 5);
        s.good("data 0" + "0".repeat(500) + "9;", 14);
    }

    private void signsOfTokens() {
        s.of(TERMS, "words (a .. z), numbers (digits), the sign ; .");
        // What stands right behind "data": a letter makes it longer, a digit begins the number.
        for (int sign = 0; sign < 256; sign++) {
            String text = "data" + (char) sign + "4;";
            if (sign >= 'a' && sign <= 'z') {
                s.fault(text, 1, 0);
            } else if (sign == ' ' || sign == '\n' || sign == '0') {
                s.good(text, 9);
            } else if (sign == '1' || sign == '2') {
                s.fault(text, 4, 7);
            } else if (sign >= '3' && sign <= '9') {
                s.fault(text, 2, 4);
            } else {
                s.fault(text, 1, 4);
            }
        }
        // What stands in place of ; ahead of another line.
        for (int sign = 0; sign < 256; sign++) {
            String text = "pairs " + (char) sign + " data 4;";
            if (sign == ';') {
                s.good(text, 9);
            } else if (sign == ' ' || sign == '\n') {
                s.fault(text, 1, 8);
            } else {
                s.fault(text, 1, 6);
            }
        }
        s.fault("Pairs;", 1, 0);
        s.good("word 0 123;", 13);
        s.due("word(0, 0)", s.made("word 0 234;").word(0, 0), 234);
        s.due("word(0, 0)", s.made("data 24; checks 6; word 0 15678901;").word(0, 0), 15678901);
    }

    private void sizes() {
        s.of(TERMS, "data (DATA, 4 .. 24; 8 if not told)");
        s.fault("data 0;", 2, 5);
        s.fault("data 3;", 2, 5);
        s.good("data 4;", 9);
        s.good("checks 8;data 24;", 32);
        s.fault("checks 8;data 25;", 2, 14);
        s.fault("checks 8;data 4294967300;", 2, 14);
        s.fault("checks 8;data 18446744073709551620;", 2, 14);
        s.fault("checks 8;data " + "9".repeat(500) + ";", 2, 14);
        s.good("checks 6;", 14);
        s.due("about(0)", s.made("checks 6;").about(0), 8);
        for (int data = 4; data <= 24; data++) {
            s.due("about(0)", s.made("checks 8;data " + data + ";").about(0), data);
        }
        s.of(TERMS, "checks (CHECKS, 4 .. 8; 5)");
        s.fault("data 4;checks 0;", 2, 14);
        s.fault("data 4;checks 3;", 2, 14);
        s.good("data 4;checks 4;", 8);
        s.good("data 4;checks 8;", 12);
        s.fault("data 4;checks 9;", 2, 14);
        s.fault("data 4;checks 4294967300;", 2, 14);
        s.good("data 4;", 9);
        for (int checks = 4; checks <= 8; checks++) {
            s.due("about(1)", s.made("data 4;checks " + checks + ";").about(1), checks);
        }
    }

    private void wayAndPairs() {
        s.of(TERMS, "way (first)");
        s.columnsAre(s.made("data 9; pairs;"), 7, 11, 13, 14, 19, 21, 22, 25, 26, 1);
        // The way of the code ahead of it does not stay.
        OddColumns x = s.made("way balanced;");
        Sentences.give(x, "data 8;");
        s.columnsAre(x, 7, 11, 13, 14, 19, 21, 22, 25, 1);
        s.of(TERMS, "pairs (PAIRS are not mended without)");
        s.due("about(2)", s.made("data 9; way paired;").about(2), 0);
        s.due("about(2)", s.made("data 9; pairs;").about(2), 1);
        x = s.made("pairs;");
        Sentences.give(x, "data 8;");
        s.due("about(2)", x.about(2), 0);
        x.burst(0, 0, 2);
        s.due("reading(0, 0)", x.reading(0, 0), 3);
    }

    private void onceEach() {
        s.of(TERMS, "once each, ahead of all lines of column, word.");
        for (int a = 0; a < 4; a++) {
            for (int b = 0; b < 4; b++) {
                if (a == b) {
                    s.fault(HEADS[a] + HEADS[b], 3, HEADS[a].length());
                } else {
                    s.good(HEADS[a] + HEADS[b], 13);
                    s.fault(HEADS[a] + HEADS[b] + HEADS[a], 3, HEADS[a].length() + HEADS[b].length());
                }
            }
            for (String body : BODIES) {
                s.good(HEADS[a] + body, 13);
                s.fault(body + HEADS[a], 3, body.length());
            }
        }
        s.good("pairs;way first;checks 5;data 8;column 0 26;word 0 1;column 1 28;word 0 2;", 13);
        // Of column, word it is not told: the later line holds.
        OddColumns x = s.made("word 3 1; column 0 26; word 3 5; column 0 28;");
        s.due("word(3, 3)", x.word(3, 3), 5);
        s.due("columnOf(0)", x.columnOf(0), 28);
        s.none("find(26, 0)", x.find(26, 0));
    }

    private void columnLines() {
        s.of(TERMS, "column: a place (0 .. DATA - 1), its COLUMN;");
        s.due("columnOf(0)", s.made("column 0 26;").columnOf(0), 26);
        s.due("columnOf(7)", s.made("column 7 26;").columnOf(7), 26);
        s.fault("column 8 26;", 2, 7);
        s.fault("column 4294967296 26;", 2, 7);
        s.due("columnOf(3)", s.made("data 4; column 3 26;").columnOf(3), 26);
        s.fault("data 4; column 4 26;", 2, 15);
        OddColumns x = s.made("data 24; checks 8; column 23 254;");
        s.due("columnOf(23)", x.columnOf(23), 254);
        s.fault("data 24; checks 8; column 24 254;", 2, 26);
        // All checks of all words are of the columns as they are in the end.
        x = s.made("word 0 1; column 0 26;");
        s.due("word(0, 1)", x.word(0, 1), 26);
        s.due("word(0, 2)", x.word(0, 2), 0);
    }

    private void wordLines() {
        s.of(TERMS, "word: a WORD (0 .. 15), what it is (0 .. 2 to the power of DATA, less 1).");
        OddColumns x = s.made("word 0 0; word 15 255; word 14 1;");
        s.due("word(0, 0)", x.word(0, 0), 0);
        s.due("word(15, 0)", x.word(15, 0), 255);
        s.due("word(14, 3)", x.word(14, 3), 1);
        s.fault("word 16 0;", 2, 5);
        s.fault("word 4294967296 0;", 2, 5);
        s.fault("word 0 256;", 2, 7);
        s.fault("word 0 4294967296;", 2, 7);
        s.good("data 4; word 0 15;", 9);
        s.fault("data 4; word 0 16;", 2, 15);
        x = s.made("data 24; checks 8; word 15 16777215;");
        s.due("word(15, 0)", x.word(15, 0), 16777215);
        s.fault("data 24; checks 8; word 15 16777216;", 2, 27);
    }

    private void firstFault() {
        s.of(TERMS, "FAULTS, the first by its place");
        s.fault("data 3;x;", 2, 5);
        s.fault("x;data 3;", 1, 0);
        s.fault("pairs;pairs;x;", 3, 6);
        s.fault("pairs;x;pairs;", 1, 6);
        s.fault("data 8;data 3;", 3, 7);
        s.fault("data 3;data 3;", 2, 5);
        s.fault("data 12;word 99 0;", 4, 8);
        s.fault("data 12;column 0 0;", 4, 8);
        s.fault("data 12;data 12;word 0 0;", 3, 8);
        s.fault("data 12;checks 9;", 2, 15);
        s.fault("data 12;word", 4, 8);
    }

    private void placeOfFault() {
        s.of(TERMS, "(a TOKEN's first byte; the end's, the text's length)");
        s.fault("   xyz", 1, 3);
        s.fault(" \n data \n 333;", 2, 10);
        s.fault("pairs; \n pairs ;", 3, 9);
        s.fault("data 12; \n word 0 0;", 4, 11);
        s.fault("pairs", 1, 5);
        s.fault("pairs   ", 1, 8);
        s.fault("pairs\n\n", 1, 7);
        s.fault("data 12;", 4, 8);
        s.fault("data 12;  \n", 4, 11);
    }

    private void leastFault() {
        s.of(TERMS, "of one place the least:");
        // Both told already and out of its place.
        s.fault("pairs pairs;", 1, 6);
        s.fault("data 8; data data 8;", 3, 8);
        s.fault("word 0 0 data 8;", 1, 9);
        s.fault("word 0 pairs;", 1, 7);
        s.fault("data 8; checks data 8;", 1, 15);
        // Both an end that can't stand there and one with too few columns.
        s.fault("data 12", 1, 7);
        s.fault("data 12; pairs", 1, 14);
        s.fault("data 12; checks", 1, 15);
        // Both an end that can't stand there and a line that is not whole.
        s.fault("word 0", 1, 6);
    }

    private void faultOne() {
        s.of(TERMS, "1 a TOKEN that is none, or can't stand there;");
        String[][] lines = {{"data", "5", ";"}, {"checks", "6", ";"}, {"way", "paired", ";"}, {"pairs", ";"},
            {"column", "0", "26", ";"}, {"word", "3", "9", ";"}};
        String[] starts = {"data", "checks", "way", "pairs", "column", "word"};
        String[] ways = {"first", "balanced", "paired"};
        String[] others = {"x", "firsts", "dat", "datas", "wore", "wordz", "pair", "z", "-", "-5", "A", "\t", ":", "\0", "\u00ff"};
        for (String[] line : lines) {
            String ahead = "";
            for (int i = 0; i < line.length; i++) {
                boolean wantsNumber = Character.isDigit(line[i].charAt(0));
                boolean wantsWay = line[i].equals("paired");
                boolean wantsSign = line[i].equals(";");
                wrongTokens(ahead, others, true);
                wrongTokens(ahead, starts, i > 0);
                wrongTokens(ahead, ways, !wantsWay);
                wrongTokens(ahead, new String[] {"7"}, !wantsNumber);
                wrongTokens(ahead, new String[] {";"}, !wantsSign);
                if (i > 0) {
                    s.fault(ahead, 1, ahead.length());
                }
                ahead = ahead + line[i] + " ";
            }
        }
        nearlyWords();
    }

    // Each word with each of its letters in turn another one, one letter less, one more.
    private void nearlyWords() {
        String[] lines = {"data 8;", "checks 5;", "pairs;", "column 0 26;", "word 3 9;", "way first;"};
        for (String line : lines) {
            int length = line.startsWith("pairs") ? 5 : line.indexOf(' ');
            nearly("", line, 0, length);
        }
        nearly("way ", "first;", 4, 5);
        nearly("way ", "balanced;", 4, 8);
        nearly("way ", "paired;", 4, 6);
    }

    private void nearly(String ahead, String line, int place, int length) {
        for (int i = 0; i < length; i++) {
            char other = line.charAt(i) == 'z' ? 'a' : (char) (line.charAt(i) + 1);
            s.fault(ahead + line.substring(0, i) + other + line.substring(i + 1), 1, place);
        }
        s.fault(ahead + line.substring(0, length - 1) + line.substring(length), 1, place);
        s.fault(ahead + line.substring(0, length) + "s" + line.substring(length), 1, place);
        s.fault(ahead + "a" + line, 1, place);
    }

    private void wrongTokens(String ahead, String[] tokens, boolean areWrong) {
        for (String token : tokens) {
            if (areWrong) {
                s.fault(ahead + token + " ;", 1, ahead.length());
            }
        }
    }

    private void faultTwo() {
        s.of(TERMS, "2 a number that can't be (a COLUMN that is none of data, or another place has);");
        for (int column = 0; column < 300; column++) {
            int ones = Integer.bitCount(column);
            boolean isOfData = column < 32 && ones >= 3 && ones % 2 == 1;
            boolean othersHave = column == 11 || column == 13 || column == 14 || column == 19 || column == 21
                || column == 22 || column == 25;
            if (isOfData && !othersHave) {
                s.good("column 0 " + column + ";", 13);
            } else {
                s.fault("column 0 " + column + ";", 2, 9);
            }
        }
        s.fault("column 0 4294967322;", 2, 9);
        s.fault("column 0 26; column 1 26;", 2, 22);
        // Its own is no other place's; one that was given up is nobody's.
        s.good("column 0 7;", 13);
        s.due("columnOf(1)", s.made("column 0 26; column 1 7;").columnOf(1), 7);
        s.fault("column 0 26; column 0 11;", 2, 22);
        s.fault("data 3;", 2, 5);
        s.fault("checks 9;", 2, 7);
        s.fault("column 8 26;", 2, 7);
        s.fault("word 16 0;", 2, 5);
        s.fault("word 0 256;", 2, 7);
    }

    private void faultThree() {
        s.of(TERMS, "3 what was told already, or is behind a line of column, word (data, checks, way, pairs: at that word);");
        String[] others = {"data 3;", "checks 99;", "way odd;", "pairs 1;"};
        for (int i = 0; i < 4; i++) {
            // At that word, whatever stands behind it.
            s.fault(HEADS[i] + others[i], 3, HEADS[i].length());
            s.fault(BODIES[0] + others[i], 3, BODIES[0].length());
            s.fault(BODIES[1] + others[i], 3, BODIES[1].length());
            s.fault(HEADS[i] + BODIES[1] + " " + HEADS[i], 3, HEADS[i].length() + BODIES[1].length() + 1);
        }
        s.fault("pairs; pairs", 3, 7);
        s.fault("data 8; checks 5; way first; pairs; data 9;", 3, 36);
    }

    private void faultFour() {
        s.of(TERMS, "4 there are too few COLUMNS for DATA");
        s.good("checks 4; data 4;", 8);
        s.fault("checks 4; data 5;", 4, 17);
        s.good("checks 5; data 11;", 16);
        s.fault("checks 5; data 12;", 4, 18);
        s.good("checks 6; data 24;", 30);
        s.fault("checks 4;", 4, 9);
        s.fault("data 12; way balanced;", 4, 22);
        s.fault("data 12; way paired;", 4, 20);
        s.of(TERMS, "or none can be chosen");
        s.fault("way paired; checks 4; data 4;", 4, 29);
        s.good("way paired; checks 5; data 10;", 15);
        s.fault("way paired; checks 5; data 11;", 4, 30);
        s.fault("way paired; checks 6; data 20;", 4, 30);
        s.of(TERMS, "(as the first line of column, word, or the end stands there: at its first byte).");
        s.fault("checks 4; word 0 0; data 4;", 4, 10);
        s.fault("checks 4; column 0 7; data 4;", 4, 10);
        s.fault("checks 4;  word 0 0; column 0 7;", 4, 11);
        s.fault("data 11; way paired; column 0 7;", 4, 21);
        s.fault("checks 4;   ", 4, 12);
        s.fault("data 11; way paired;", 4, 20);
    }
}
