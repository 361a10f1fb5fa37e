/** Each promise of the document by hand: ordinary inputs, the edges that it names, wrong inputs. */
public final class PromisesTest {
    private static final int NONE = OddColumns.NONE;
    private static final int LEAST = Integer.MIN_VALUE;
    private static final int MOST = Integer.MAX_VALUE;
    private static int wrong = 0;
    private static int checked = 0;
    private static int promise = 0;

    public static void main(String[] args) {
        newObject();
        tape();
        codes();
        faults();
        writes();
        parts();
        mends();
        slips();
        storms();
        stuckPlaces();
        columnsByHand();
        ways();
        pairs();
        undoRedo();
        rowsAndFinds();
        readings();
        readingsOfStuck();
        counts();
        changes();
        gates();
        chips();
        exchanges();
        fewest();
        trials();
        tallies();
        boxes();
        about();
        widest();
        System.out.println(wrong == 0 ? "PromisesTest: " + checked + " answers as due" : "PromisesTest: " + wrong + " not as due");
        if (wrong != 0) {
            System.exit(1);
        }
    }

    private static void due(String call, int got, int want) {
        checked++;
        if (got != want) {
            wrong++;
            System.out.println("promise " + promise + ": " + call + " answered " + got + ", due is " + want);
        }
    }

    private static void due(String call, boolean got, boolean want) {
        due(call, got ? 1 : 0, want ? 1 : 0);
    }

    private static void yes(String call, boolean got) {
        due(call, got, true);
    }

    private static void no(String call, boolean got) {
        due(call, got, false);
    }

    private static void none(String call, int got) {
        due(call, got, NONE);
    }

    private static int give(OddColumns x, String text) {
        for (int i = 0; i < text.length(); i += 20) {
            int[] n = new int[5];
            for (int j = 0; j < 20; j++) {
                n[j / 4] = n[j / 4] << 8 | (i + j < text.length() ? text.charAt(i + j) : ' ');
            }
            x.feed(n[0], n[1], n[2], n[3], n[4]);
        }
        x.end(text.length());
        return x.code();
    }

    private static OddColumns of(String text) {
        OddColumns x = new OddColumns();
        int places = give(x, text);
        if (places == NONE) {
            due("code() of " + text, NONE, 0);
        }
        return x;
    }

    private static void columnsAre(OddColumns x, int... want) {
        for (int p = 0; p < want.length; p++) {
            due("columnOf(" + p + ")", x.columnOf(p), want[p]);
        }
    }

    private static void newObject() {
        promise = 1;
        OddColumns x = new OddColumns();
        columnsAre(x, 7, 11, 13, 14, 19, 21, 22, 25, 1, 2, 4, 8, 16, NONE);
        due("about(0)", x.about(0), 8);
        due("about(1)", x.about(1), 5);
        due("about(2)", x.about(2), 0);
        for (int w = 0; w < 16; w++) {
            for (int what = 0; what < 5; what++) {
                due("word(" + w + ", " + what + ")", x.word(w, what), 0);
            }
        }
        for (int what = 0; what < 8; what++) {
            due("tally(" + what + ")", x.tally(what), 0);
        }
        none("back(0)", x.back(0));
        due("NONE", OddColumns.NONE, -1);
    }

    private static void tape() {
        promise = 2;
        OddColumns x = new OddColumns();
        for (int i = 1; i <= 30; i++) {
            due("feed", x.feed(-1, 0, 0, 0, 0), 20 * i);
        }
        none("feed beyond 600", x.feed(0, 0, 0, 0, 0));
        due("about(7)", x.about(7), 600);
        promise = 3;
        none("end(601)", x.end(601));
        none("end(-1)", x.end(-1));
        none("end(LEAST)", x.end(LEAST));
        none("end(MOST)", x.end(MOST));
        due("about(7)", x.about(7), 600);
        due("end(600)", x.end(600), 600);
        due("end(581)", x.end(581), 581);
        promise = 2;
        none("feed of 20 behind 581", x.feed(0, 0, 0, 0, 0));
        promise = 3;
        due("end(580)", x.end(580), 580);
        none("end(581)", x.end(581));
        due("feed of 20 behind 580", x.feed(0, 0, 0, 0, 0), 600);
        due("end(0)", x.end(0), 0);
        none("end(1)", x.end(1));
        promise = 2;
        // "pair" "s;wo" "rd 3" " 9; " "    ": the highest byte of each number first.
        due("feed", x.feed(0x70616972, 0x733B776F, 0x72642033, 0x20393B20, 0x20202020), 20);
        none("code", x.end(21));
        due("code()", x.code(), 13);
        due("about(2)", x.about(2), 1);
        due("word(3, 0)", x.word(3, 0), 9);
    }

    private static void codes() {
        promise = 4;
        OddColumns x = new OddColumns();
        x.write(5, 77);
        x.stick(6, 0, 1);
        x.slip(7, 0);
        x.mend(7);
        x.image(0);
        x.image(1);
        x.undo();
        due("code() with a fault", give(x, "data 8; data"), NONE);
        due("about(7)", x.about(7), 0);
        due("about(5)", x.about(5), 3);
        due("about(6)", x.about(6), 1);
        due("word(5, 0)", x.word(5, 0), 77);
        due("stuck(6, 0)", x.stuck(6, 0), 0);
        due("tally(7)", x.tally(7), 1);
        due("back(1)", x.back(1), 15);
        due("code()", give(x, "data 10; checks 6; word 3 1023; word 3 5; word 15 2; column 0 56;"), 16);
        due("about(7)", x.about(7), 0);
        due("about(0)", x.about(0), 10);
        due("about(1)", x.about(1), 6);
        due("about(5)", x.about(5), 0);
        due("about(6)", x.about(6), 0);
        due("about(4)", x.about(4), 0);
        none("back(0)", x.back(0));
        none("back(1)", x.back(1));
        due("tally(7)", x.tally(7), 0);
        none("stuck(6, 0)", x.stuck(6, 0));
        due("word(5, 0)", x.word(5, 0), 0);
        due("word(5, 3)", x.word(5, 3), 0);
        due("word(3, 0)", x.word(3, 0), 5);
        due("word(3, 3)", x.word(3, 3), 5);
        // By the columns as they are at the end: 56 of place 0, 13 of place 2.
        due("word(3, 1)", x.word(3, 1), 56 ^ 13);
        due("word(3, 2)", x.word(3, 2), 0);
        due("word(15, 0)", x.word(15, 0), 2);
        due("code() of nothing", x.code(), 13);
        columnsAre(x, 7, 11, 13, 14, 19, 21, 22, 25, 1);
    }

    private static void fault(String text, int kind, int place) {
        OddColumns x = new OddColumns();
        due("code() of " + text, give(x, text), NONE);
        due("fault(0) of " + text, x.fault(0), kind);
        due("fault(1) of " + text, x.fault(1), place);
        due("about(0) behind " + text, x.about(0), 8);
    }

    private static void good(String text, int places) {
        OddColumns x = new OddColumns();
        due("code() of " + text, give(x, text), places);
        due("fault(0) of " + text, x.fault(0), 0);
        due("fault(1) of " + text, x.fault(1), NONE);
    }

    private static void faults() {
        promise = 5;
        OddColumns x = new OddColumns();
        due("fault(0)", x.fault(0), 0);
        none("fault(1)", x.fault(1));
        none("fault(2)", x.fault(2));
        none("fault(-1)", x.fault(-1));
        give(x, "data");
        due("fault(1)", x.fault(1), 4);
        give(x, "data 4;");
        due("fault(0)", x.fault(0), 0);
        none("fault(1)", x.fault(1));
        goodTexts();
        tokensOutOfPlace();
        numbersThatCannotBe();
        toldAlready();
        noColumns();
    }

    private static void goodTexts() {
        good("", 13);
        good(" \n ", 13);
        good("data 4;", 9);
        good("data4;", 9);
        good("data 11;", 16);
        good("data\n00008\n;   ", 13);
        good("data 24; checks 8;", 32);
        good("checks 4; data 4;", 8);
        good("pairs;way balanced;data 5;checks 7;", 12);
        good("column 0 26; column 0 28; column 1 7;", 13);
        good("column 0 7;", 13);
        good("word 15 255; word 0 0;", 13);
        good("way paired; data 10;", 15);
    }

    private static void tokensOutOfPlace() {
        fault("data 8", 1, 6);
        fault("data 8  ", 1, 8);
        fault("data", 1, 4);
        fault(";", 1, 0);
        fault("8;", 1, 0);
        fault("first;", 1, 0);
        fault("DATA 4;", 1, 0);
        fault("datas 4;", 1, 0);
        fault("dataz 4;", 1, 0);
        fault("lata 4;", 1, 0);
        fault("dat 4;", 1, 0);
        fault("data 4 5;", 1, 7);
        fault("data ;", 1, 5);
        fault("data data 8;", 1, 5);
        fault("data\t4;", 1, 4);
        fault("data -4;", 1, 5);
        fault("data 8;\r", 1, 7);
        fault("data 8;\u00e9", 1, 7);
        fault("\0", 1, 0);
        fault("way odd;", 1, 4);
        fault("way 0;", 1, 4);
        fault("way first balanced;", 1, 10);
        fault("pairs 1;", 1, 6);
        fault("word 0;", 1, 6);
        fault("word 0 1 2;", 1, 9);
        fault("column 0 x;", 1, 9);
        fault("checks 4;x", 1, 9);
        fault("data 12; word", 4, 9);
        fault("data 12", 1, 7);
    }

    private static void numbersThatCannotBe() {
        fault("data 3;", 2, 5);
        fault("data 25;", 2, 5);
        fault("data 99999999999999999999999;", 2, 5);
        fault("data 4294967304;", 2, 5);
        fault("checks 3;", 2, 7);
        fault("checks 9;", 2, 7);
        fault("column 8 26;", 2, 7);
        fault("column 0 11;", 2, 9);
        fault("column 0 27;", 2, 9);
        fault("column 0 1;", 2, 9);
        fault("column 0 0;", 2, 9);
        fault("column 0 37;", 2, 9);
        fault("column 0 4294967322;", 2, 9);
        fault("column 0 26; column 1 26;", 2, 22);
        fault("word 16 0;", 2, 5);
        fault("word 0 256;", 2, 7);
        fault("data 4; word 0 16;", 2, 15);
    }

    private static void toldAlready() {
        fault("data 8; data 8;", 3, 8);
        fault("checks 5;checks 5;", 3, 9);
        fault("way first; way first;", 3, 11);
        fault("pairs; pairs;", 3, 7);
        fault("word 0 1; pairs;", 3, 10);
        fault("word 0 1; data 8;", 3, 10);
        fault("column 0 26; checks 5;", 3, 13);
        fault("column 0 26; way first;", 3, 13);
    }

    private static void noColumns() {
        fault("data 12;", 4, 8);
        fault("data 12;  \n", 4, 11);
        fault("checks 4;", 4, 9);
        fault("checks 4; word 0 0; data 4;", 4, 10);
        fault("checks 4; column 0 7; data 4;", 4, 10);
        fault("way paired; checks 4; data 4;", 4, 29);
        fault("data 11; way paired;", 4, 20);
        fault("data 20; checks 6; way paired;", 4, 30);
        fault("data 20; checks 6; way paired; word 0 0;", 4, 31);
    }

    private static void writes() {
        promise = 6;
        OddColumns x = new OddColumns();
        no("write(-1, 0)", x.write(-1, 0));
        no("write(16, 0)", x.write(16, 0));
        no("write(MOST, 0)", x.write(MOST, 0));
        no("write(0, -1)", x.write(0, -1));
        no("write(0, 256)", x.write(0, 256));
        due("about(5)", x.about(5), 0);
        yes("write(15, 255)", x.write(15, 255));
        due("word(15, 0)", x.word(15, 0), 255);
        due("word(15, 1)", x.word(15, 1), 7 ^ 11 ^ 13 ^ 14 ^ 19 ^ 21 ^ 22 ^ 25);
        due("word(15, 3)", x.word(15, 3), 255);
        x.slip(15, 0);
        x.slip(15, 1);
        yes("write(15, 3)", x.write(15, 3));
        due("word(15, 4)", x.word(15, 4), 0);
        due("word(15, 1)", x.word(15, 1), 7 ^ 11);
        due("tally(0)", x.tally(0), 0);
        due("about(5)", x.about(5), 4);
    }

    private static void parts() {
        promise = 7;
        OddColumns x = new OddColumns();
        none("part(16, 0, 0)", x.part(16, 0, 0));
        none("part(-1, 0, 0)", x.part(-1, 0, 0));
        none("part(0, 256, 0)", x.part(0, 256, 0));
        none("part(0, -1, 0)", x.part(0, -1, 0));
        none("part(0, 0, 256)", x.part(0, 0, 256));
        none("part(0, 0, LEAST)", x.part(0, 0, LEAST));
        due("about(5)", x.about(5), 0);
        x.write(0, 0xF0);
        due("part(0, 60, 15)", x.part(0, 60, 15), 0);
        due("word(0, 0)", x.word(0, 0), 0xCC);
        due("word(0, 3)", x.word(0, 3), 0xCC);
        due("tally(0)", x.tally(0), 1);
        x.slip(0, 12);
        due("part(0, 1, 1)", x.part(0, 1, 1), 1);
        due("word(0, 0)", x.word(0, 0), 0xCD);
        due("word(0, 4)", x.word(0, 4), 0);
        due("tally(1)", x.tally(1), 1);
        // Three places whose columns' XOR is that of the first check: read wrongly, and kept so.
        x.burst(1, 0, 3);
        due("part(1, 8, 8)", x.part(1, 8, 8), 1);
        due("word(1, 0)", x.word(1, 0), 15);
        due("word(1, 3)", x.word(1, 3), 8);
        due("word(1, 2)", x.word(1, 2), 0);
        due("tally(6)", x.tally(6), 1);
        due("about(4)", x.about(4), 2);
        x.burst(2, 0, 2);
        x.undo();
        x.redo();
        x.write(3, 1);
        x.undo();
        due("part(2, 1, 1)", x.part(2, 1, 1), 3);
        due("tally(3)", x.tally(3), 0);
        due("word(2, 3)", x.word(2, 3), 0);
        due("about(6)", x.about(6), 1);
        x.pairs(true);
        due("part(2, 4, 4)", x.part(2, 4, 4), 2);
        due("word(2, 0)", x.word(2, 0), 4);
        due("tally(2)", x.tally(2), 1);
        x.stick(4, 3, 1);
        due("part(4, 1, 1)", x.part(4, 1, 1), 5);
        due("word(4, 3)", x.word(4, 3), 1);
        due("word(4, 0)", x.word(4, 0), 9);
        due("tally(5)", x.tally(5), 1);
        x.slip(5, 0);
        x.slip(5, 4);
        x.slip(5, 12);
        x.slip(5, 3);
        x.slip(5, 6);
        due("word(5, 2)", x.word(5, 2), 28);
        due("part(5, 0, 0)", x.part(5, 0, 0), 4);
    }

    private static void mends() {
        promise = 8;
        OddColumns x = new OddColumns();
        none("mend(-1)", x.mend(-1));
        none("mend(16)", x.mend(16));
        due("about(5)", x.about(5), 0);
        x.write(2, 200);
        due("mend(2)", x.mend(2), 0);
        due("about(5)", x.about(5), 2);
        for (int place = 0; place < 13; place++) {
            x.slip(2, place);
            due("mend(2)", x.mend(2), 1);
            due("word(2, 4)", x.word(2, 4), 0);
        }
        due("tally(1)", x.tally(1), 13);
        x.burst(2, 3, 2);
        due("mend(2)", x.mend(2), 3);
        due("word(2, 4)", x.word(2, 4), 2);
        due("tally(3)", x.tally(3), 1);
        x.burst(3, 0, 3);
        due("mend(3)", x.mend(3), 1);
        due("word(3, 4)", x.word(3, 4), 4);
        due("word(3, 3)", x.word(3, 3), 0);
        due("tally(6)", x.tally(6), 1);
        due("mend(3)", x.mend(3), 0);
        due("tally(6)", x.tally(6), 2);
        // 26 is no column: 7 ^ 11 ^ 22.
        x.slip(4, 0);
        x.slip(4, 1);
        x.slip(4, 6);
        due("mend(4)", x.mend(4), 4);
        due("tally(4)", x.tally(4), 1);
        due("word(4, 0)", x.word(4, 0), 67);
        promise = 9;
        x = new OddColumns();
        x.slip(2, 0);
        x.slip(3, 12);
        x.burst(4, 0, 2);
        x.stick(5, 7, 1);
        due("scrub()", x.scrub(), 3);
        due("tally(0)", x.tally(0), 12);
        due("tally(1)", x.tally(1), 2);
        due("tally(3)", x.tally(3), 1);
        due("tally(5)", x.tally(5), 1);
        due("about(4)", x.about(4), 16 + 32);
        due("scrub()", x.scrub(), 1);
        due("about(5)", x.about(5), 6);
        x.pairs(true);
        due("scrub()", x.scrub(), 2);
        due("about(4)", x.about(4), 32);
    }

    private static void slips() {
        promise = 10;
        OddColumns x = new OddColumns();
        none("slip(-1, 0)", x.slip(-1, 0));
        none("slip(16, 0)", x.slip(16, 0));
        none("slip(0, -1)", x.slip(0, -1));
        none("slip(0, 13)", x.slip(0, 13));
        none("slip(0, 32)", x.slip(0, 32));
        due("about(5)", x.about(5), 0);
        due("slip(0, 12)", x.slip(0, 12), 1);
        due("word(0, 1)", x.word(0, 1), 16);
        due("slip(0, 12)", x.slip(0, 12), 0);
        due("slip(0, 7)", x.slip(0, 7), 1);
        due("word(0, 0)", x.word(0, 0), 128);
        due("word(0, 3)", x.word(0, 3), 0);
        x.stick(1, 4, 0);
        due("slip(1, 4)", x.slip(1, 4), 0);
        due("tally(7)", x.tally(7), 3);
        due("about(5)", x.about(5), 5);
        promise = 11;
        x = new OddColumns();
        no("burst(0, 0, 0)", x.burst(0, 0, 0));
        no("burst(0, 0, 9)", x.burst(0, 0, 9));
        no("burst(0, 6, 8)", x.burst(0, 6, 8));
        no("burst(0, 13, 1)", x.burst(0, 13, 1));
        no("burst(0, -1, 2)", x.burst(0, -1, 2));
        no("burst(16, 0, 1)", x.burst(16, 0, 1));
        no("burst(0, MOST, 2)", x.burst(0, MOST, 2));
        no("burst(0, 0, MOST)", x.burst(0, 0, MOST));
        due("about(5)", x.about(5), 0);
        yes("burst(0, 5, 8)", x.burst(0, 5, 8));
        due("word(0, 0)", x.word(0, 0), 32 + 64 + 128);
        due("word(0, 1)", x.word(0, 1), 31);
        due("tally(7)", x.tally(7), 8);
        x.stick(0, 6, 1);
        yes("burst(0, 6, 1)", x.burst(0, 6, 1));
        yes("burst(0, 5, 3)", x.burst(0, 5, 3));
        due("word(0, 0)", x.word(0, 0), 64);
        due("tally(7)", x.tally(7), 10);
        due("about(5)", x.about(5), 4);
    }

    private static void storms() {
        promise = 12;
        OddColumns x = new OddColumns();
        none("storm(0, 0, 0)", x.storm(0, 0, 0));
        none("storm(0, 201, 0)", x.storm(0, 201, 0));
        none("storm(-1, 1, 0)", x.storm(-1, 1, 0));
        none("storm(10000, 1, 0)", x.storm(10000, 1, 0));
        none("storm(0, 1, -1)", x.storm(0, 1, -1));
        none("storm(0, 1, 51)", x.storm(0, 1, 51));
        due("about(5)", x.about(5), 0);
        // Draws from 0: 71 (word 7), 9798 (place 9), 1459 (word 3), 9821 (place 6).
        due("storm(0, 2, 0)", x.storm(0, 2, 0), 2);
        due("word(7, 1)", x.word(7, 1), 2);
        due("word(3, 0)", x.word(3, 0), 64);
        due("tally(7)", x.tally(7), 2);
        due("tally(0)", x.tally(0), 0);
        yes("undo()", x.undo());
        due("storm(0, 2, 1)", x.storm(0, 2, 1), 0);
        due("tally(0)", x.tally(0), 30);
        due("tally(1)", x.tally(1), 2);
        yes("undo()", x.undo());
        due("storm(0, 2, 2)", x.storm(0, 2, 2), 0);
        due("tally(0)", x.tally(0), 14);
        yes("undo()", x.undo());
        due("storm(0, 2, 3)", x.storm(0, 2, 3), 2);
        yes("undo()", x.undo());
        x.stick(7, 9, 0);
        due("storm(0, 1, 0)", x.storm(0, 1, 0), 0);
        due("tally(7)", x.tally(7), 0);
        due("about(5)", x.about(5), 2);
        int notMeant = x.storm(9999, 200, 50);
        due("storm(9999, 200, 50)", notMeant, Integer.bitCount(x.about(4)));
    }

    private static void stuckPlaces() {
        promise = 13;
        OddColumns x = new OddColumns();
        no("stick(-1, 0, 0)", x.stick(-1, 0, 0));
        no("stick(16, 0, 0)", x.stick(16, 0, 0));
        no("stick(0, -1, 0)", x.stick(0, -1, 0));
        no("stick(0, 13, 0)", x.stick(0, 13, 0));
        no("stick(0, 0, 2)", x.stick(0, 0, 2));
        no("stick(0, 0, -1)", x.stick(0, 0, -1));
        due("about(5)", x.about(5), 0);
        yes("stick(0, 12, 1)", x.stick(0, 12, 1));
        no("stick(0, 12, 0)", x.stick(0, 12, 0));
        yes("stick(0, 3, 0)", x.stick(0, 3, 0));
        no("stick(0, 4, 0)", x.stick(0, 4, 0));
        due("word(0, 1)", x.word(0, 1), 16);
        due("tally(7)", x.tally(7), 0);
        yes("write(0, 15)", x.write(0, 15));
        due("word(0, 0)", x.word(0, 0), 7);
        due("word(0, 3)", x.word(0, 3), 15);
        due("word(0, 1)", x.word(0, 1), (7 ^ 11 ^ 13 ^ 14) | 16);
        promise = 27;
        due("stuck(0, 0)", x.stuck(0, 0), 3);
        due("stuck(0, 1)", x.stuck(0, 1), 12);
        none("stuck(0, 2)", x.stuck(0, 2));
        none("stuck(0, -1)", x.stuck(0, -1));
        none("stuck(1, 0)", x.stuck(1, 0));
        none("stuck(16, 0)", x.stuck(16, 0));
        x.stick(2, 5, 1);
        due("stuck(2, 0)", x.stuck(2, 0), 5);
        none("stuck(2, 1)", x.stuck(2, 1));
        promise = 14;
        none("free(1)", x.free(1));
        none("free(16)", x.free(16));
        none("free(-1)", x.free(-1));
        int acts = x.about(5);
        due("free(0)", x.free(0), 2);
        due("about(5)", x.about(5), acts + 1);
        due("word(0, 0)", x.word(0, 0), 7);
        none("stuck(0, 0)", x.stuck(0, 0));
        none("free(0)", x.free(0));
        due("slip(0, 3)", x.slip(0, 3), 1);
        due("free(2)", x.free(2), 1);
    }

    private static void columnsByHand() {
        promise = 15;
        OddColumns x = new OddColumns();
        no("column(0, 7)", x.column(0, 7));
        no("column(0, 11)", x.column(0, 11));
        no("column(0, 1)", x.column(0, 1));
        no("column(0, 27)", x.column(0, 27));
        no("column(0, 0)", x.column(0, 0));
        no("column(0, 37)", x.column(0, 37));
        no("column(0, LEAST)", x.column(0, LEAST));
        no("column(0, -1)", x.column(0, -1));
        no("column(8, 26)", x.column(8, 26));
        no("column(-1, 26)", x.column(-1, 26));
        due("about(5)", x.about(5), 0);
        x.write(0, 1);
        x.slip(0, 5);
        x.slip(1, 5);
        x.stick(2, 0, 1);
        yes("column(0, 31)", x.column(0, 31));
        due("columnOf(0)", x.columnOf(0), 31);
        due("word(0, 0)", x.word(0, 0), 1);
        due("word(0, 1)", x.word(0, 1), 31);
        due("word(1, 0)", x.word(1, 0), 0);
        due("word(2, 0)", x.word(2, 0), 1);
        due("word(2, 2)", x.word(2, 2), 31);
        due("about(4)", x.about(4), 4);
        due("find(31, 0)", x.find(31, 0), 0);
        none("find(7, 0)", x.find(7, 0));
        promise = 16;
        no("swap(0, 0)", x.swap(0, 0));
        no("swap(0, 8)", x.swap(0, 8));
        no("swap(-1, 0)", x.swap(-1, 0));
        no("swap(8, 0)", x.swap(8, 0));
        x.slip(0, 5);
        int acts = x.about(5);
        yes("swap(7, 0)", x.swap(7, 0));
        due("about(5)", x.about(5), acts + 1);
        due("columnOf(0)", x.columnOf(0), 25);
        due("columnOf(7)", x.columnOf(7), 31);
        due("word(0, 0)", x.word(0, 0), 1);
        due("word(0, 1)", x.word(0, 1), 25);
        due("find(31, 0)", x.find(31, 0), 7);
    }

    private static void ways() {
        promise = 17;
        OddColumns x = new OddColumns();
        no("way(-1)", x.way(-1));
        no("way(3)", x.way(3));
        due("about(5)", x.about(5), 0);
        x.slip(0, 0);
        yes("way(0)", x.way(0));
        due("about(5)", x.about(5), 2);
        due("word(0, 4)", x.word(0, 4), 1);
        yes("way(1)", x.way(1));
        columnsAre(x, 7, 11, 28, 13, 14, 19, 21, 26, 1);
        due("word(0, 4)", x.word(0, 4), 0);
        yes("way(2)", x.way(2));
        columnsAre(x, 7, 13, 19, 14, 11, 28, 21, 26, 1);
        due("twos(2)", x.twos(2), 1);
        x = of("data 4; checks 4;");
        no("way(2)", x.way(2));
        yes("way(1)", x.way(1));
        columnsAre(x, 7, 11, 13, 14, 1, 2, 4, 8);
        x = of("data 11;");
        columnsAre(x, 7, 11, 13, 14, 19, 21, 22, 25, 26, 28, 31);
        no("way(2)", x.way(2));
        due("columnOf(10)", x.columnOf(10), 31);
        x = of("data 20; checks 6;");
        no("way(2)", x.way(2));
        due("about(5)", x.about(5), 0);
        x = of("data 24; checks 7; way paired;");
        due("twos(2)", x.twos(2), 1);
        due("columnOf(23)", x.columnOf(23), 70);
        x = of("data 24; checks 6; way balanced;");
        due("rows(0)", x.rows(0), 20 * 3 + 4 * 5);
        due("columnOf(20)", x.columnOf(20), 31);
        // With no free row the column of least number goes: both rows of the other half are left.
        x = of("data 4; checks 6; way balanced;");
        columnsAre(x, 7, 56, 11, 52);
    }

    private static void pairs() {
        promise = 18;
        OddColumns x = new OddColumns();
        no("pairs(false)", x.pairs(false));
        x.burst(0, 3, 2);
        due("reading(0, 0)", x.reading(0, 0), 3);
        yes("pairs(true)", x.pairs(true));
        no("pairs(true)", x.pairs(true));
        due("about(2)", x.about(2), 1);
        due("about(5)", x.about(5), 2);
        due("reading(0, 0)", x.reading(0, 0), 2);
        due("reading(0, 1)", x.reading(0, 1), 3);
        due("word(0, 4)", x.word(0, 4), 2);
        yes("undo()", x.undo());
        due("about(2)", x.about(2), 0);
        due("about(2)", of("pairs;").about(2), 1);
    }

    private static void undoRedo() {
        promise = 20;
        OddColumns x = new OddColumns();
        no("undo()", x.undo());
        for (int i = 1; i <= 15; i++) {
            x.write(0, i);
        }
        due("about(5)", x.about(5), 12);
        for (int i = 14; i >= 3; i--) {
            yes("undo()", x.undo());
            due("word(0, 0)", x.word(0, 0), i);
        }
        no("undo()", x.undo());
        due("word(0, 0)", x.word(0, 0), 3);
        promise = 21;
        due("about(6)", x.about(6), 12);
        for (int i = 4; i <= 15; i++) {
            yes("redo()", x.redo());
            due("word(0, 0)", x.word(0, 0), i);
        }
        no("redo()", x.redo());
        x.undo();
        x.undo();
        no("write(0, 256)", x.write(0, 256));
        no("pairs(false)", x.pairs(false));
        none("better()", x.better());
        due("about(6)", x.about(6), 2);
        yes("redo()", x.redo());
        x.mend(0);
        due("about(6)", x.about(6), 0);
        no("redo()", x.redo());
        promise = 20;
        due("tally(0)", x.tally(0), 1);
        yes("undo()", x.undo());
        due("tally(0)", x.tally(0), 0);
        due("about(5)", x.about(5), 11);
        undoOfEachAct();
    }

    private static void undoOfEachAct() {
        for (int act = 0; act < 15; act++) {
            OddColumns x = of("data 8; checks 6; word 0 9; word 1 17;");
            x.burst(0, 1, 3);
            x.stick(2, 0, 1);
            int ahead = sum(x);
            perform(x, act);
            int behind = sum(x);
            due("act " + act + ": about(5)", x.about(5), 3);
            yes("undo() of act " + act, x.undo());
            due("all ahead of act " + act, sum(x), ahead);
            yes("redo() of act " + act, x.redo());
            due("all behind act " + act, sum(x), behind);
        }
    }

    private static void perform(OddColumns x, int act) {
        switch (act) {
            case 0: x.write(3, 1); break;
            case 1: x.part(1, 1, 0); break;
            case 2: x.mend(0); break;
            case 3: x.scrub(); break;
            case 4: x.slip(3, 3); break;
            case 5: x.burst(3, 3, 5); break;
            case 6: x.storm(5, 100, 7); break;
            case 7: x.stick(0, 0, 1); break;
            case 8: x.free(2); break;
            case 9: x.column(0, 56); break;
            case 10: x.swap(0, 1); break;
            case 11: x.way(1); break;
            case 12: x.pairs(true); break;
            case 13: x.better(); break;
            default: x.way(0); break;
        }
    }

    // All that acts change, in one number.
    private static int sum(OddColumns x) {
        int s = 0;
        for (int p = 0; p < 14; p++) {
            s = s * 31 + x.columnOf(p);
        }
        for (int w = 0; w < 16; w++) {
            s = s * 31 + x.word(w, 0);
            s = s * 31 + x.word(w, 1);
            s = s * 31 + x.word(w, 2);
            s = s * 31 + x.word(w, 3);
            s = s * 31 + x.stuck(w, 0);
            s = s * 31 + x.stuck(w, 1);
        }
        for (int t = 0; t < 8; t++) {
            s = s * 31 + x.tally(t);
        }
        return s * 31 + x.about(2);
    }

    private static void rowsAndFinds() {
        promise = 22;
        OddColumns x = of("data 4; checks 8;");
        columnsAre(x, 7, 11, 13, 14, 1, 2, 4, 8, 16, 32, 64, 128, NONE);
        none("columnOf(-1)", x.columnOf(-1));
        none("columnOf(MOST)", x.columnOf(MOST));
        promise = 23;
        due("row(0, 0)", x.row(0, 0), 3);
        due("row(0, 1)", x.row(0, 1), 2);
        due("row(7, 0)", x.row(7, 0), 0);
        none("row(7, 1)", x.row(7, 1));
        none("row(8, 0)", x.row(8, 0));
        none("row(-1, 0)", x.row(-1, 0));
        none("row(0, 2)", x.row(0, 2));
        none("row(0, -1)", x.row(0, -1));
        x.column(0, 128 + 64 + 32);
        x.column(1, 128 + 64 + 16);
        due("row(4, 0)", x.row(4, 0), 1);
        due("row(4, 1)", x.row(4, 1), 0);
        due("row(7, 0)", x.row(7, 0), 2);
        due("row(7, 1)", x.row(7, 1), 1);
        OddColumns big = of("data 24; checks 6;");
        for (int row = 0; row < 6; row++) {
            int wires = 0;
            for (int p = 0; p < 24; p++) {
                wires += big.columnOf(p) >> row & 1;
            }
            due("row(" + row + ", 0)", big.row(row, 0), wires);
            due("row(" + row + ", 1)", big.row(row, 1), wires > 16 ? 5 : wires > 8 ? 4 : wires > 4 ? 3 : 2);
        }
        promise = 24;
        x = of("data 4; checks 8;");
        due("rows(0)", x.rows(0), 12);
        due("rows(1)", x.rows(1), 3);
        due("rows(2)", x.rows(2), 2);
        none("rows(3)", x.rows(3));
        none("rows(-1)", x.rows(-1));
        promise = 29;
        x = new OddColumns();
        due("find(25, 0)", x.find(25, 0), 7);
        due("find(16, 0)", x.find(16, 0), 12);
        none("find(0, 0)", x.find(0, 0));
        none("find(26, 0)", x.find(26, 0));
        none("find(-1, 0)", x.find(-1, 0));
        none("find(256, 0)", x.find(256, 0));
        none("find(256 + 7, 0)", x.find(263, 0));
        due("find(24, 1)", x.find(24, 1), 7);
        due("find(3, 1)", x.find(3, 1), 2);
        due("find(29, 1)", x.find(29, 1), 3);
        none("find(0, 1)", x.find(0, 1));
        none("find(5, 1)", x.find(5, 1));
        none("find(LEAST, 1)", x.find(LEAST, 1));
        none("find(7, 2)", x.find(7, 2));
        none("find(7, -1)", x.find(7, -1));
    }

    private static void readings() {
        promise = 25;
        OddColumns x = new OddColumns();
        x.write(9, 129);
        x.slip(9, 1);
        x.slip(9, 8);
        due("word(9, 0)", x.word(9, 0), 131);
        due("word(9, 1)", x.word(9, 1), 7 ^ 25 ^ 1);
        due("word(9, 2)", x.word(9, 2), 11 ^ 1);
        due("word(9, 3)", x.word(9, 3), 129);
        due("word(9, 4)", x.word(9, 4), 2);
        none("word(9, 5)", x.word(9, 5));
        none("word(9, -1)", x.word(9, -1));
        none("word(16, 0)", x.word(16, 0));
        none("word(-1, 0)", x.word(-1, 0));
        promise = 26;
        none("reading(16, 0)", x.reading(16, 0));
        none("reading(-1, 0)", x.reading(-1, 0));
        none("reading(9, 4)", x.reading(9, 4));
        none("reading(9, -1)", x.reading(9, -1));
        readingIs(x, 9, 3, NONE, NONE, NONE);
        readingIs(x, 0, 0, NONE, 0, 1);
        x.slip(1, 11);
        readingIs(x, 1, 1, 11, 0, 1);
        x.burst(2, 0, 3);
        readingIs(x, 2, 1, 8, 7, 0);
        x.slip(3, 0);
        x.slip(3, 1);
        x.slip(3, 6);
        due("word(3, 2)", x.word(3, 2), 26);
        readingIs(x, 3, 4, NONE, NONE, NONE);
        // A word that looks clean and is not what is meant.
        x.burst(4, 0, 3);
        x.slip(4, 8);
        readingIs(x, 4, 0, NONE, 7, 0);
        int acts = x.about(5);
        due("tally(0)", x.tally(0), 0);
        x.pairs(true);
        readingIs(x, 3, 4, NONE, NONE, NONE);
        x.burst(5, 7, 2);
        readingIs(x, 5, 2, 7, 0, 1);
        // The two of places 11, 12 are those of 7, 8, too: the first are taken.
        x.burst(6, 11, 2);
        readingIs(x, 6, 2, 7, 128, 0);
        due("about(5)", x.about(5), Math.min(12, acts + 3));
    }

    private static void readingIs(OddColumns x, int word, int kind, int place, int data, int right) {
        due("reading(" + word + ", 0)", x.reading(word, 0), kind);
        due("reading(" + word + ", 1)", x.reading(word, 1), place);
        due("reading(" + word + ", 2)", x.reading(word, 2), data);
        due("reading(" + word + ", 3)", x.reading(word, 3), right);
    }

    private static void readingsOfStuck() {
        promise = 26;
        OddColumns x = new OddColumns();
        x.stick(0, 2, 1);
        readingIs(x, 0, 5, NONE, 0, 1);
        x.slip(0, 9);
        readingIs(x, 0, 5, 9, 0, 1);
        // As it is, a column comes ahead of the stuck one turned: 13 ^ 7 ^ 11 is that of place 8.
        x.slip(0, 9);
        x.slip(0, 0);
        x.slip(0, 1);
        readingIs(x, 0, 1, 8, 7, 0);
        // One stuck rightly, two slips: 14 ^ 19 = 29; with 22 turned 11, a column.
        x.stick(1, 6, 0);
        x.burst(1, 3, 2);
        readingIs(x, 1, 5, 1, 8 + 16 + 64 + 2, 0);
        // One stuck alone, 26 is no column as it is, nor even with 7: ODD.
        x.stick(2, 7, 0);
        x.slip(2, 0);
        x.slip(2, 1);
        x.slip(2, 6);
        readingIs(x, 2, 4, NONE, NONE, NONE);
        // Two stuck: both, the lower, the other one.
        x.stick(3, 1, 1);
        x.stick(3, 0, 1);
        readingIs(x, 3, 5, NONE, 0, 1);
        x.write(3, 1);
        readingIs(x, 3, 5, NONE, 1, 1);
        x.write(3, 2);
        readingIs(x, 3, 5, NONE, 2, 1);
        x.write(3, 3);
        readingIs(x, 3, 0, NONE, 3, 1);
        x.slip(3, 5);
        readingIs(x, 3, 1, 5, 3, 1);
        x.write(3, 2);
        x.slip(3, 5);
        // 7 ^ 21 = 18: DOUBLE with two stuck, a pair of none.
        readingIs(x, 3, 3, NONE, NONE, NONE);
        x.pairs(true);
        readingIs(x, 3, 3, NONE, NONE, NONE);
        promise = 28;
        x = new OddColumns();
        none("stands(16, 0)", x.stands(16, 0));
        none("stands(-1, 0)", x.stands(-1, 0));
        none("stands(0, 3)", x.stands(0, 3));
        none("stands(0, -1)", x.stands(0, -1));
        x.slip(0, 0);
        x.slip(0, 1);
        standsAre(x, 0, 13, 0, 0);
        x.stick(5, 0, 1);
        standsAre(x, 5, 12, 0, 0);
        // 12 ^ each other column: 31, 26, 28 are no columns, all others are of some place.
        x.stick(5, 1, 1);
        standsAre(x, 5, 0, 3, 8);
        x.write(5, 3);
        standsAre(x, 5, 11, 0, 0);
        due("about(5)", x.about(5), 5);
    }

    private static void standsAre(OddColumns x, int word, int right, int told, int wrongs) {
        due("stands(" + word + ", 0)", x.stands(word, 0), right);
        due("stands(" + word + ", 1)", x.stands(word, 1), told);
        due("stands(" + word + ", 2)", x.stands(word, 2), wrongs);
    }

    private static void counts() {
        String[] texts = {"", "data 4; checks 4;", "data 13; checks 6; pairs;", "data 24; checks 8; way balanced;",
            "data 9; checks 5; way paired; pairs;"};
        for (String text : texts) {
            OddColumns x = of(text);
            int n = x.about(0) + x.about(1);
            int[] threes = new int[3];
            int fours = 0;
            for (int i = 0; i < n; i++) {
                for (int j = i + 1; j < n; j++) {
                    for (int k = j + 1; k < n; k++) {
                        int xor = x.columnOf(i) ^ x.columnOf(j) ^ x.columnOf(k);
                        int missed = x.find(xor, 0) != NONE ? 1 : 0;
                        threes[0] += missed;
                        threes[1] += k < x.about(0) ? missed : 0;
                        threes[2]++;
                        fours += x.find(xor, 0) > k ? 1 : 0;
                    }
                }
            }
            promise = 30;
            for (int what = 0; what < 3; what++) {
                due("threes(" + what + ") of " + text, x.threes(what), threes[what]);
            }
            none("threes(3)", x.threes(3));
            none("threes(-1)", x.threes(-1));
            promise = 31;
            due("fours() of " + text, x.fours(), fours);
            promise = 32;
            countTwos(x, n, text);
        }
    }

    private static void countTwos(OddColumns x, int n, String text) {
        int mistaken = 0;
        int lone = 0;
        for (int i = 0; i < n; i++) {
            for (int j = i + 2; j < n; j++) {
                mistaken += x.find(x.columnOf(i) ^ x.columnOf(j), 1) != NONE ? 1 : 0;
            }
        }
        for (int i = 0; i + 1 < n; i++) {
            int same = 0;
            for (int j = 0; j + 1 < n; j++) {
                same += (x.columnOf(i) ^ x.columnOf(i + 1)) == (x.columnOf(j) ^ x.columnOf(j + 1)) ? 1 : 0;
            }
            lone += same == 1 ? 1 : 0;
        }
        due("twos(0) of " + text, x.twos(0), x.about(2) == 1 ? mistaken : 0);
        due("twos(1) of " + text, x.twos(1), lone);
        due("twos(2) of " + text, x.twos(2), lone == n - 1 ? 1 : 0);
        none("twos(3)", x.twos(3));
        none("twos(-1)", x.twos(-1));
    }

    private static void changes() {
        promise = 33;
        String[] texts = {"", "data 6; checks 6;", "data 5; checks 7;", "data 7; way balanced;", "data 4; checks 4;"};
        for (String text : texts) {
            OddColumns x = of(text);
            x.slip(0, 0);
            int[] best = {NONE, NONE, NONE};
            int least = x.threes(0);
            for (int p = 0; p < x.about(0); p++) {
                for (int c = 0; c < 1 << x.about(1); c++) {
                    if (x.column(p, c)) {
                        if (x.threes(0) < least) {
                            least = x.threes(0);
                            best = new int[] {p, c, least};
                        }
                        x.undo();
                    }
                }
            }
            promise = 33;
            for (int what = 0; what < 3; what++) {
                due("change(" + what + ") of " + text, x.change(what), best[what]);
            }
            none("change(3)", x.change(3));
            none("change(-1)", x.change(-1));
            promise = 19;
            int acts = x.about(5);
            due("better() of " + text, x.better(), best[2]);
            due("about(5)", x.about(5), best[0] == NONE ? acts : acts + 1);
            due("about(4)", x.about(4), best[0] == NONE ? 1 : 0);
            due("threes(0)", x.threes(0), least);
            if (best[0] != NONE) {
                due("columnOf(" + best[0] + ")", x.columnOf(best[0]), best[1]);
            }
        }
        OddColumns x = of("data 6; checks 6;");
        int now = x.threes(0);
        for (int i = 0; i < 50; i++) {
            int then = x.better();
            if (then == NONE) {
                break;
            }
            yes("fewer than " + now, then < now);
            now = then;
        }
        none("better() in the end", x.better());
        none("change(0) in the end", x.change(0));
    }

    private static void gates() {
        promise = 34;
        OddColumns x = of("data 4; checks 8;");
        gatesAre(x, 8, 6, 2, 2);
        none("gates(4)", x.gates(4));
        none("gates(-1)", x.gates(-1));
        promise = 35;
        sharedIs(x, 0, 0, 1, 2, 1);
        sharedIs(x, 1, 2, 3, 2, 1);
        sharedIs(x, 2, NONE, NONE, NONE, NONE);
        sharedIs(x, -1, NONE, NONE, NONE, NONE);
        sharedIs(x, MOST, NONE, NONE, NONE, NONE);
        none("shared(0, 4)", x.shared(0, 4));
        none("shared(0, -1)", x.shared(0, -1));
        // Rows 0 to 3 have 0, 1 together; rows 0, 1, 4, 5 have 2, 3; rows 0, 1 then both new ones.
        promise = 34;
        x = of("data 4; checks 6; column 0 31; column 1 47; column 2 55; column 3 59;");
        gatesAre(x, 14, 7, 3, 2);
        promise = 35;
        sharedIs(x, 0, 0, 1, 4, 1);
        sharedIs(x, 1, 2, 3, 4, 1);
        sharedIs(x, 2, 4, 5, 2, 2);
        sharedIs(x, 3, NONE, NONE, NONE, NONE);
    }

    private static void gatesAre(OddColumns x, int plain, int with, int more, int depth) {
        due("gates(0)", x.gates(0), plain);
        due("gates(1)", x.gates(1), with);
        due("gates(2)", x.gates(2), more);
        due("gates(3)", x.gates(3), depth);
    }

    private static void sharedIs(OddColumns x, int i, int lower, int other, int together, int depth) {
        due("shared(" + i + ", 0)", x.shared(i, 0), lower);
        due("shared(" + i + ", 1)", x.shared(i, 1), other);
        due("shared(" + i + ", 2)", x.shared(i, 2), together);
        due("shared(" + i + ", 3)", x.shared(i, 3), depth);
    }

    private static void chips() {
        promise = 36;
        OddColumns x = new OddColumns();
        // The last one has a place alone.
        chipIs(x, 3, 1, 0, 0);
        // 7, 11, 13, 14: ones RIGHT, twos DOUBLE, threes 1, 2, 4, 8 are the checks', all four 15.
        chipIs(x, 0, 4, 7, 4);
        chipIs(x, 4, NONE, NONE, NONE);
        chipIs(x, -2, NONE, NONE, NONE);
        none("chip(0, 3)", x.chip(0, 3));
        none("chip(0, -1)", x.chip(0, -1));
        int[] sums = new int[3];
        for (int c = 0; c < 4; c++) {
            for (int what = 0; what < 3; what++) {
                sums[what] += x.chip(c, what);
            }
        }
        chipIs(x, NONE, sums[0], sums[1], sums[2]);
        due("all sets", sums[0] + sums[1] + sums[2], 46);
        // With pairs 12, 6, 3 of 0 1, 1 2, 2 3 are RIGHT; 7 ^ 14 = 9, 5, 10 are of none;
        // all four's 15 is that of places 6, 7.
        x.pairs(true);
        chipIs(x, 0, 7, 3, 5);
        x.stick(0, 0, 1);
        chipIs(x, 0, 7, 3, 5);
        // Columns whose XOR is 0 together: CLEAN, but WRONG.
        x = of("data 5; column 3 28; column 2 26; column 4 14; column 0 13; column 1 11;");
        due("13 ^ 11 ^ 26 ^ 28", 13 ^ 11 ^ 26 ^ 28, 0);
        chipIs(x, 0, 4, 6, 5);
    }

    private static void chipIs(OddColumns x, int chip, int right, int told, int wrongs) {
        due("chip(" + chip + ", 0)", x.chip(chip, 0), right);
        due("chip(" + chip + ", 1)", x.chip(chip, 1), told);
        due("chip(" + chip + ", 2)", x.chip(chip, 2), wrongs);
    }

    private static void exchanges() {
        promise = 37;
        String[] texts = {"", "pairs;", "data 12; checks 6;", "data 11; pairs;", "data 4; checks 4;", "data 9; checks 7; pairs;"};
        for (String text : texts) {
            OddColumns x = of(text);
            int[] best = {NONE, NONE, NONE};
            int least = x.chip(NONE, 2);
            for (int a = 0; a < x.about(0); a++) {
                for (int b = a + 1; b < x.about(0); b++) {
                    x.swap(a, b);
                    if (x.chip(NONE, 2) < least) {
                        least = x.chip(NONE, 2);
                        best = new int[] {a, b, least};
                    }
                    x.undo();
                }
            }
            for (int what = 0; what < 3; what++) {
                due("exchange(" + what + ") of " + text, x.exchange(what), best[what]);
            }
            none("exchange(3)", x.exchange(3));
            none("exchange(-1)", x.exchange(-1));
            due("about(5)", x.about(5), 0);
        }
    }

    private static void fewest() {
        promise = 38;
        OddColumns x = new OddColumns();
        int[][] of = {{1, 4}, {4, 4}, {5, 5}, {11, 5}, {12, 6}, {26, 6}, {27, 7}, {57, 7}, {58, 8}, {120, 8},
            {121, NONE}, {200, NONE}, {201, NONE}, {0, NONE}, {-1, NONE}, {LEAST, NONE}, {MOST, NONE}};
        for (int[] each : of) {
            due("fewest(" + each[0] + ")", x.fewest(each[0]), each[1]);
        }
        promise = 39;
        x = of("data 24; checks 8;");
        due("columns(3, 0)", x.columns(3, 0), 56);
        due("columns(3, 1)", x.columns(3, 1), 32);
        due("columns(5, 0)", x.columns(5, 0), 56);
        due("columns(7, 0)", x.columns(7, 0), 8);
        x.column(0, 127);
        due("columns(7, 1)", x.columns(7, 1), 7);
        due("columns(3, 1)", x.columns(3, 1), 33);
        none("columns(1, 0)", x.columns(1, 0));
        none("columns(4, 0)", x.columns(4, 0));
        none("columns(9, 0)", x.columns(9, 0));
        none("columns(3, 2)", x.columns(3, 2));
        none("columns(3, -1)", x.columns(3, -1));
        due("columns(5, 0)", of("data 4; checks 4;").columns(5, 0), 0);
    }

    private static void trials() {
        promise = 40;
        OddColumns x = of("data 12; checks 6; pairs; word 3 99;");
        x.burst(3, 2, 3);
        x.stick(4, 4, 1);
        none("would(-1, 0, 0)", x.would(-1, 0, 0));
        none("would(10000, 0, 0)", x.would(10000, 0, 0));
        none("would(0, -1, 0)", x.would(0, -1, 0));
        none("would(0, 201, 0)", x.would(0, 201, 0));
        none("would(0, 0, -1)", x.would(0, 0, -1));
        none("would(0, 0, 51)", x.would(0, 0, 51));
        due("would(9999, 0, 50)", x.would(9999, 0, 50), 2);
        int ahead = x.tally(7);
        for (int seed = 0; seed < 10000; seed += 997) {
            for (int every = 0; every <= 50; every += 5) {
                int would = x.would(seed, 200, every);
                due("storm(" + seed + ", 200, " + every + ")", x.storm(seed, 200, every), would);
                x.undo();
            }
        }
        due("tally(7)", x.tally(7), ahead);
        due("about(5)", x.about(5), 2);
        promise = 41;
        none("worst(-1, 0, 0)", x.worst(-1, 0, 0));
        none("worst(101, 0, 0)", x.worst(101, 0, 0));
        none("worst(0, -1, 0)", x.worst(0, -1, 0));
        none("worst(0, 51, 0)", x.worst(0, 51, 0));
        none("worst(0, 0, 2)", x.worst(0, 0, 2));
        none("worst(0, 0, -1)", x.worst(0, 0, -1));
        due("worst(0, 0, 0)", x.worst(0, 0, 0), 0);
        due("worst(0, 0, 1)", x.worst(0, 0, 1), 2);
        for (int n = 1; n <= 100; n++) {
            int every = n % 9;
            int seed = 0;
            for (int s = 0; s < 50; s++) {
                seed = x.would(s, n, every) > x.would(seed, n, every) ? s : seed;
            }
            due("worst(" + n + ", " + every + ", 0)", x.worst(n, every, 0), seed);
            due("worst(" + n + ", " + every + ", 1)", x.worst(n, every, 1), x.would(seed, n, every));
        }
        // Here the first seed that is not looked at would be worse.
        OddColumns y = of("data 5; checks 6;");
        due("would(50, 65, 4)", y.would(50, 65, 4), 8);
        due("worst(65, 4, 1)", y.worst(65, 4, 1), 7);
        intervals();
    }

    private static void intervals() {
        promise = 42;
        OddColumns x = of("data 12; checks 6; pairs;");
        none("interval(-1, 1)", x.interval(-1, 1));
        none("interval(10000, 1)", x.interval(10000, 1));
        none("interval(0, 0)", x.interval(0, 0));
        none("interval(0, 201)", x.interval(0, 201));
        due("interval(0, 1)", x.interval(0, 1), 1);
        for (int n = 1; n <= 200; n += 7) {
            int greatest = 0;
            for (int every = 1; every <= 50; every++) {
                greatest = x.would(n, n, every) == 0 ? every : greatest;
            }
            due("interval(" + n + ", " + n + ")", x.interval(n, n), greatest);
        }
        x.burst(0, 0, 3);
        x.mend(0);
        due("interval behind a word mended wrongly", x.interval(0, 1), x.about(4) == 0 ? 1 : 0);
        x.stick(1, 0, 1);
        due("interval with one stuck wrongly", x.interval(0, 1), 0);
    }

    private static void tallies() {
        promise = 43;
        OddColumns x = new OddColumns();
        none("tally(8)", x.tally(8));
        none("tally(-1)", x.tally(-1));
        x.slip(0, 0);
        x.part(0, 0, 0);
        x.burst(1, 0, 2);
        x.mend(1);
        x.part(1, 0, 0);
        x.pairs(true);
        x.mend(1);
        x.burst(2, 0, 3);
        x.stick(3, 0, 1);
        x.scrub();
        x.pairs(false);
        x.slip(4, 0);
        x.slip(4, 1);
        x.slip(4, 6);
        x.mend(4);
        int[] want = {14, 2, 1, 1, 1, 1, 1, 9};
        for (int what = 0; what < 8; what++) {
            due("tally(" + what + ")", x.tally(what), want[what]);
        }
        x.storm(0, 2, 1);
        due("tally(7)", x.tally(7), 11);
        // Word 2 looks clean, and is wrong, by both scrubs; word 4 is told, 3 healed.
        due("tally(6)", x.tally(6), 3);
        due("tally(5)", x.tally(5), 3);
        due("tally(4)", x.tally(4), 3);
    }

    private static void boxes() {
        promise = 44;
        OddColumns x = new OddColumns();
        none("image(2)", x.image(2));
        none("image(-1)", x.image(-1));
        none("image(MOST)", x.image(MOST));
        x.slip(0, 0);
        x.stick(1, 0, 1);
        due("image(0)", x.image(0), 14);
        due("about(5)", x.about(5), 2);
        x.way(1);
        x.pairs(true);
        x.write(2, 5);
        x.free(1);
        x.scrub();
        due("image(1)", x.image(1), 16);
        promise = 45;
        none("back(2)", x.back(2));
        none("back(-1)", x.back(-1));
        x.feed(1, 1, 1, 1, 1);
        x.undo();
        due("back(0)", x.back(0), 14);
        due("about(5)", x.about(5), 0);
        due("about(6)", x.about(6), 0);
        due("about(7)", x.about(7), 20);
        due("about(2)", x.about(2), 0);
        due("columnOf(2)", x.columnOf(2), 13);
        due("stuck(1, 0)", x.stuck(1, 0), 0);
        due("word(0, 2)", x.word(0, 2), 7);
        due("word(2, 3)", x.word(2, 3), 0);
        due("tally(0)", x.tally(0), 0);
        due("tally(7)", x.tally(7), 1);
        x.write(0, 1);
        due("about(5)", x.about(5), 1);
        due("back(1)", x.back(1), 16);
        due("columnOf(2)", x.columnOf(2), 28);
        due("word(2, 3)", x.word(2, 3), 5);
        due("find(13, 0)", x.find(13, 0), 3);
        due("about(2)", x.about(2), 1);
        x.write(3, 3);
        due("back(0)", x.back(0), 14);
        due("word(3, 3)", x.word(3, 3), 0);
        due("image(1)", x.image(1), 14);
        due("back(1)", x.back(1), 14);
        due("columnOf(2)", x.columnOf(2), 13);
        x.end(0);
        due("code() with a fault", give(x, "x"), NONE);
        due("back(1)", x.back(1), 14);
        due("code()", give(x, "data 4;"), 9);
        none("back(1)", x.back(1));
        x = new OddColumns();
        x.image(1);
        none("back(0)", x.back(0));
        due("back(1)", x.back(1), 16);
    }

    private static void about() {
        promise = 46;
        OddColumns x = of("data 10; checks 6; pairs;");
        none("about(8)", x.about(8));
        none("about(-1)", x.about(-1));
        due("about(0)", x.about(0), 10);
        due("about(1)", x.about(1), 6);
        due("about(2)", x.about(2), 1);
        x.slip(2, 0);
        x.slip(15, 1);
        x.stick(4, 3, 1);
        due("about(3)", x.about(3), 3);
        due("about(4)", x.about(4), 4 + 32768 + 16);
        due("about(5)", x.about(5), 3);
        x.undo();
        due("about(3)", x.about(3), 2);
        due("about(6)", x.about(6), 1);
        x.feed(0, 0, 0, 0, 0);
        due("about(7)", x.about(7), 20);
    }

    // The widest word: its last check is the sign of an int.
    private static void widest() {
        promise = 25;
        OddColumns x = of("data 24; checks 8; word 0 16777215;");
        due("word(0, 0)", x.word(0, 0), 16777215);
        x.column(23, 0xE0);
        x.write(1, 1 << 23);
        due("word(1, 1)", x.word(1, 1), 0xE0);
        due("slip(1, 31)", x.slip(1, 31), 0);
        due("word(1, 1)", x.word(1, 1), 0x60);
        due("word(1, 2)", x.word(1, 2), 128);
        due("reading(1, 1)", x.reading(1, 1), 31);
        due("mend(1)", x.mend(1), 1);
        due("word(1, 1)", x.word(1, 1), 0xE0);
        yes("stick(2, 31, 1)", x.stick(2, 31, 1));
        due("stuck(2, 0)", x.stuck(2, 0), 31);
        yes("stick(2, 30, 1)", x.stick(2, 30, 1));
        due("stuck(2, 1)", x.stuck(2, 1), 31);
        due("stuck(2, 0)", x.stuck(2, 0), 30);
        due("word(2, 4)", x.word(2, 4), 2);
        yes("burst(3, 24, 8)", x.burst(3, 24, 8));
        no("burst(3, 25, 8)", x.burst(3, 25, 8));
        due("word(3, 1)", x.word(3, 1), 255);
        due("word(3, 0)", x.word(3, 0), 0);
        no("write(0, 16777216)", x.write(0, 16777216));
        none("columnOf(32)", x.columnOf(32));
        due("chip(7, 0)", x.chip(7, 0), 4);
        none("chip(8, 0)", x.chip(8, 0));
    }
}
