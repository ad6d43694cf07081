/** The edges of "5 sheets, parts": its terms, and promises 28 to 38. */
final class SheetEdges {
    /** A man, a lame one, an archer. */
    private static final String KINDS = "z13;m035l184a056";

    private final Said said;

    SheetEdges(Said said) {
        this.said = said;
    }

    void all() {
        sheetsHaveNothing();
        rowsOfZeroToSixty();
        zeroAtFirst();
        lanes();
        cutToTheLane();
        trace();
        traceWraps();
        tellingOfMan();
        tellingOfLame();
        tellingOfArcher();
        sworn();
        sheetPromise();
        sheetOutside();
        sheetSize();
        losePromise();
        putPromise();
        cellPromise();
        cellFaults();
        copyPromise();
        copyOverItself();
        copyNull();
        copyCast();
        copyIndex();
        tellPromise();
        swearPromise();
        asPromise();
        tracePromise();
        faultPromise();
        faultStays();
        manyPromise();
    }

    private void sheetsHaveNothing() {
        said.terms("5 SHEETS 0 .. 3 have nothing (at first),");
        for (int k = 0; k < 4; k++) {
            ToothField x = new ToothField();
            said.due(x, "lose " + k + " = 0", "put " + k + " 0 1 = NULL", "cell " + k + " 0 2 = LOST", "fault = 1",
                "sheet " + k + " 2 1 = 1", "put " + k + " 0 1 = 1");
        }
        said.due(new ToothField(), "lose -1 = UNKNOWN", "lose 4 = UNKNOWN", "sheet -1 0 0 = UNKNOWN",
            "sheet 4 0 0 = UNKNOWN");
    }

    private void rowsOfZeroToSixty() {
        said.terms("or a row of 0 .. 60 numbers");
        for (int n = 0; n <= 60; n++) {
            ToothField x = new ToothField();
            said.due(x, "sheet 1 0 " + n + " = 1", "put 1 " + n + " 5 = INDEX", "cell 1 " + n + " 0 = LOST",
                "fault = 3");
            if (n > 0) {
                said.due(x, "put 1 " + (n - 1) + " 5 = 1", "cell 1 " + (n - 1) + " 0 = 5");
            }
        }
        said.due(new ToothField(), "sheet 1 0 61 = OUTSIDE", "put 1 0 0 = NULL");
    }

    private void zeroAtFirst() {
        said.terms("(0 at first)");
        ToothField x = new ToothField();
        x.sheet(0, 0, 60);
        for (int i = 0; i < 60; i++) {
            said.is(x, "cell 0 " + i + " 0", 0);
            x.put(0, i, 9);
        }
        x.lose(0);
        x.sheet(0, 2, 60);
        for (int i = 0; i < 60; i++) {
            said.is(x, "cell 0 " + i + " 2", 0);
        }
        ToothField y = new ToothField();
        y.sheet(0, 0, 3);
        y.put(0, 2, 7);
        y.sheet(0, 0, 2);
        y.sheet(0, 0, 3);
        said.is(y, "cell 0 2 0", 0);
    }

    private void lanes() {
        said.terms("of a LANE: 0 bytes, 1 shorts, 2 ints;");
        for (int lane = 0; lane < 3; lane++) {
            ToothField x = new ToothField();
            x.sheet(0, lane, 1);
            for (int other = 0; other < 3; other++) {
                said.is(x, "cell 0 0 " + other, other == lane ? 0 : Long.MIN_VALUE);
            }
        }
        said.due(new ToothField(), "sheet 0 -1 1 = OUTSIDE", "sheet 0 3 1 = OUTSIDE");
    }

    private void cut(int lane, int v, long want) {
        ToothField x = new ToothField();
        x.sheet(0, lane, 1);
        x.put(0, 0, v);
        said.is(x, "cell 0 0 " + lane, want);
    }

    private void cutToTheLane() {
        said.terms("what comes to a cell of it is cut to its LANE.");
        int[] values = {0, 1, -1, 127, 128, 255, 256, -128, -129, -256, 32767, 32768, 65535, 65536, -32768, -32769,
            65536 + 200, Integer.MAX_VALUE, Integer.MIN_VALUE};
        long[] bytes = {0, 1, -1, 127, -128, -1, 0, -128, 127, 0, -1, 0, -1, 0, 0, -1, -56, -1, 0};
        long[] shorts = {0, 1, -1, 127, 128, 255, 256, -128, -129, -256, 32767, -32768, -1, 0, -32768, 32767, 200, -1,
            0};
        for (int i = 0; i < values.length; i++) {
            cut(0, values[i], bytes[i]);
            cut(1, values[i], shorts[i]);
            cut(2, values[i], values[i]);
        }
    }

    private void trace() {
        said.terms("TELLING of MEN by bodies that leave their number in TRACE");
        said.terms("0 at first, becomes 31 times it and the number) as they begin:");
        ToothField x = Sown.sown(KINDS);
        said.due(x, "trace = 0", "swear 0 = 0", "trace = 4", "swear 2 = 20", "trace = 129", "tell 0 = 3",
            "trace = 4000");
    }

    /** 5, 160, .., 147917280, then beyond an int. */
    private void traceWraps() {
        said.terms("(an int that wraps,");
        ToothField x = Sown.sown(KINDS);
        long[] traces = {5, 160, 4965, 153920, 4771525, 147917280, 290468389, 414585472, -32752251};
        for (long want : traces) {
            x.swear(2);
            said.is(x, "trace", want);
        }
    }

    private void tellingOfMan() {
        said.terms("MAN (1): STRENGTH.");
        for (int s = 1; s <= 9; s++) {
            ToothField x = Sown.sown("z12;m0" + s + "1.");
            said.is(x, "tell 0", s);
            said.is(x, "trace", 1);
        }
    }

    private void tellingOfLame() {
        said.terms("LAME (2): what MAN's gives, and 100.");
        for (int s = 1; s <= 9; s++) {
            ToothField x = Sown.sown("z12;l0" + s + "1.");
            said.is(x, "tell 0", 100 + s);
            said.is(x, "trace", 31 * 2 + 1);
        }
    }

    private void tellingOfArcher() {
        said.terms("ARCHER (3): what LAME's gives, and what MAN's gives (LAME's left out).");
        for (int s = 1; s <= 9; s++) {
            ToothField x = Sown.sown("z12;a0" + s + "1.");
            said.is(x, "tell 0", 100 + 2 * s);
            said.is(x, "trace", ((31 * 3 + 2) * 31 + 1) * 31 + 1);
        }
    }

    private void sworn() {
        said.terms("SWORN by a lent body (4): its number; ARCHERS have their own (5): 20.");
        ToothField x = Sown.sown("z25;m011l011m011l011m011;m011m011a011..");
        for (int m = 0; m < 7; m++) {
            said.is(x, "swear " + m, m);
        }
        said.due(x, "swear 7 = 20");
        said.due(Sown.sown("z12;l011."), "swear 0 = 0", "trace = 4");
        said.due(Sown.sown("z12;a011."), "swear 0 = 20", "trace = 5");
    }

    private void sheetPromise() {
        said.promise(28, "A SHEET gets a new row: 1.");
        ToothField x = new ToothField();
        said.due(x, "sheet 0 2 3 = 1", "put 0 1 9 = 1", "sheet 0 2 3 = 1", "cell 0 1 2 = 0", "put 0 1 9 = 1",
            "sheet 0 1 3 = 1", "cell 0 1 2 = LOST", "fault = 2", "cell 0 1 1 = 0", "sheet 0 0 0 = 1",
            "cell 0 0 0 = LOST", "fault = 3");
    }

    private void sheetOutside() {
        said.promise(28, "UNKNOWN; OUTSIDE: lane, n above 60;");
        ToothField x = new ToothField();
        said.due(x, "sheet 4 0 0 = UNKNOWN", "sheet -1 0 0 = UNKNOWN", "sheet MIN 0 0 = UNKNOWN",
            "sheet MAX 0 0 = UNKNOWN", "sheet 0 3 0 = OUTSIDE", "sheet 0 -1 0 = OUTSIDE", "sheet 0 MIN 0 = OUTSIDE",
            "sheet 0 MAX 0 = OUTSIDE", "sheet 0 0 61 = OUTSIDE", "sheet 0 0 MAX = OUTSIDE", "fault = 0", "lose 0 = 0",
            "sheet 0 0 60 = 1", "put 0 59 3 = 1", "sheet 0 0 61 = OUTSIDE", "cell 0 59 0 = 3");
    }

    private void sheetSize() {
        said.promise(28, "SIZE.");
        ToothField x = new ToothField();
        said.due(x, "sheet 0 0 -1 = SIZE", "fault = 4", "lose 0 = 0", "sheet 0 0 MIN = SIZE", "lose 0 = 0",
            "sheet 0 3 -1 = OUTSIDE", "fault = 0", "sheet 4 0 -1 = UNKNOWN", "sheet 0 1 2 = 1", "put 0 1 3 = 1",
            "sheet 0 0 -1 = SIZE", "cell 0 1 1 = 3");
    }

    private void losePromise() {
        said.promise(29, "A SHEET has nothing: 1; 0: it had nothing. UNKNOWN.");
        ToothField x = new ToothField();
        said.due(x, "lose 0 = 0", "sheet 0 0 0 = 1", "sheet 1 0 1 = 1", "lose 0 = 1", "lose 0 = 0", "put 0 0 0 = NULL",
            "put 1 0 0 = 1", "lose 4 = UNKNOWN", "lose -1 = UNKNOWN", "lose MIN = UNKNOWN", "lose MAX = UNKNOWN",
            "lose 1 = 1");
        ToothField y = Sown.sown(KINDS);
        said.due(y, "lose 3 = 1", "many 1 = 3", "left = 7");
    }

    private void putPromise() {
        said.promise(30, "Cell i of a SHEET becomes v: 1. UNKNOWN; NULL; INDEX.");
        ToothField x = new ToothField();
        said.due(x, "sheet 0 2 3 = 1", "put 0 0 5 = 1", "put 0 2 6 = 1", "put 0 2 MIN = 1", "cell 0 0 2 = 5",
            "cell 0 1 2 = 0", "cell 0 2 2 = -2147483648", "put 4 0 1 = UNKNOWN", "put -1 0 1 = UNKNOWN",
            "put MIN 0 1 = UNKNOWN", "put MAX 0 1 = UNKNOWN", "fault = 0", "put 1 0 1 = NULL", "fault = 1",
            "put 1 -1 1 = NULL", "put 0 3 1 = INDEX", "fault = 3", "put 0 -1 1 = INDEX", "put 0 60 1 = INDEX",
            "put 0 MIN 1 = INDEX", "put 0 MAX 1 = INDEX", "put 0 1 1 = 1", "fault = 0", "sheet 2 0 0 = 1",
            "put 2 0 1 = INDEX");
    }

    private void cellPromise() {
        said.promise(31, "Cell i of what a SHEET has, taken as a row of a LANE. LOST: UNKNOWN, OUTSIDE: lane;");
        ToothField x = new ToothField();
        said.due(x, "sheet 0 1 2 = 1", "put 0 0 -3 = 1", "cell 0 0 1 = -3", "cell 0 1 1 = 0", "cell 4 0 1 = LOST",
            "fault = 0", "cell -1 0 1 = LOST", "cell MIN 0 1 = LOST", "cell MAX 0 1 = LOST", "fault = 0",
            "cell 0 0 3 = LOST", "fault = 0", "cell 0 0 -1 = LOST", "cell 0 0 MIN = LOST", "cell 0 0 MAX = LOST",
            "fault = 0", "cell 1 0 3 = LOST", "fault = 0");
    }

    private void cellFaults() {
        said.promise(31, "FAULTS CAST (nothing is no CAST), NULL, INDEX.");
        ToothField x = new ToothField();
        x.sheet(0, 1, 2);
        for (int lane = 0; lane < 3; lane++) {
            said.due(x, "cell 1 0 " + lane + " = LOST", "fault = 1", "cell 1 -1 " + lane + " = LOST", "fault = 1");
        }
        said.due(x, "cell 0 0 0 = LOST", "fault = 2", "cell 0 9 2 = LOST", "fault = 2", "cell 0 2 1 = LOST",
            "fault = 3", "cell 0 1 1 = 0", "fault = 0", "cell 0 -1 1 = LOST", "fault = 3", "cell 0 MIN 1 = LOST",
            "fault = 3", "cell 0 MAX 1 = LOST", "fault = 3", "lose 0 = 1", "cell 0 0 0 = LOST", "fault = 1");
    }

    private static ToothField withRows() {
        ToothField x = new ToothField();
        x.sheet(0, 2, 5);
        Sown.write(x, 0, 0, "\1\2\3\4\5");
        x.sheet(1, 2, 3);
        x.sheet(2, 1, 3);
        return x;
    }

    private void copyPromise() {
        said.promise(32, "n cells of a SHEET from i on go to another one");
        ToothField x = withRows();
        said.due(x, "copy 0 2 1 0 3 = 3", "cell 1 0 2 = 3", "cell 1 1 2 = 4", "cell 1 2 2 = 5", "cell 0 2 2 = 3",
            "copy 0 0 1 2 1 = 1", "cell 1 2 2 = 1", "cell 1 1 2 = 4", "copy 0 5 1 3 0 = 0", "cell 1 2 2 = 1",
            "fault = 0");
    }

    private void copyOverItself() {
        said.promise(32, "(perhaps the same) from j on, as they were: n.");
        said.due(withRows(), "copy 0 0 0 1 4 = 4", "cell 0 0 2 = 1", "cell 0 1 2 = 1", "cell 0 2 2 = 2",
            "cell 0 3 2 = 3", "cell 0 4 2 = 4");
        said.due(withRows(), "copy 0 1 0 0 4 = 4", "cell 0 0 2 = 2", "cell 0 1 2 = 3", "cell 0 2 2 = 4",
            "cell 0 3 2 = 5", "cell 0 4 2 = 5");
        said.due(withRows(), "copy 0 0 0 0 5 = 5", "cell 0 0 2 = 1", "cell 0 4 2 = 5");
    }

    private void copyNull() {
        said.promise(32, "UNKNOWN; FAULTS NULL (the first, the other),");
        said.due(withRows(), "copy 4 0 0 0 1 = UNKNOWN", "copy -1 0 0 0 1 = UNKNOWN", "copy 0 0 4 0 1 = UNKNOWN",
            "copy 0 0 -1 0 1 = UNKNOWN", "copy MAX 0 0 0 1 = UNKNOWN", "copy 0 0 MIN 0 1 = UNKNOWN",
            "copy 3 0 4 0 1 = UNKNOWN", "fault = 0", "copy 3 0 0 0 1 = NULL", "fault = 1", "copy 0 0 3 0 1 = NULL",
            "copy 2 0 3 0 1 = NULL", "copy 3 0 2 0 1 = NULL", "copy 3 0 3 0 0 = NULL", "copy 3 -1 0 -1 -1 = NULL");
    }

    private void copyCast() {
        said.promise(32, "CAST (unlike LANES),");
        said.due(withRows(), "copy 0 0 2 0 1 = CAST", "fault = 2", "copy 2 0 0 0 1 = CAST", "copy 0 0 2 0 0 = CAST",
            "copy 0 9 2 9 -1 = CAST", "cell 2 0 1 = 0");
    }

    private void copyIndex() {
        said.promise(32, "INDEX: i, j, n below 0 or beyond.");
        said.due(withRows(), "copy 0 -1 1 0 1 = INDEX", "fault = 3", "copy 0 0 1 -1 1 = INDEX",
            "copy 0 0 1 0 -1 = INDEX", "copy 0 5 1 0 1 = INDEX", "copy 0 6 1 0 0 = INDEX", "copy 0 0 1 3 1 = INDEX",
            "copy 0 0 1 4 0 = INDEX", "copy 0 0 1 0 4 = INDEX", "copy 0 3 1 0 3 = INDEX", "copy 0 0 1 1 3 = INDEX",
            "copy 0 MAX 1 0 MAX = INDEX", "copy 0 0 1 MAX MAX = INDEX", "copy 0 1 1 1 MAX = INDEX",
            "copy 0 0 1 0 MIN = INDEX", "copy 0 MIN 1 MIN MIN = INDEX", "cell 1 0 2 = 0", "copy 0 0 1 0 3 = 3",
            "fault = 0");
    }

    private void tellPromise() {
        said.promise(33, "TELLING of a MAN. UNKNOWN.");
        ToothField x = Sown.sown(KINDS);
        said.due(x, "tell 3 = UNKNOWN", "tell -1 = UNKNOWN", "tell MIN = UNKNOWN", "tell MAX = UNKNOWN", "trace = 0",
            "tell 0 = 3", "tell 1 = 108", "tell 2 = 110");
        said.due(new ToothField(), "tell 0 = UNKNOWN", "trace = 0");
    }

    private void swearPromise() {
        said.promise(34, "How he is SWORN. UNKNOWN.");
        ToothField x = Sown.sown(KINDS);
        said.due(x, "swear 3 = UNKNOWN", "swear -1 = UNKNOWN", "swear MIN = UNKNOWN", "swear MAX = UNKNOWN",
            "trace = 0", "swear 0 = 0", "swear 1 = 1", "swear 2 = 20");
        said.due(new ToothField(), "swear 0 = UNKNOWN", "trace = 0");
    }

    private void asPromise() {
        said.promise(35,
            "A MAN, taken as one of a kind: 1. UNKNOWN; OUTSIDE; CAST: he is none (each is a MAN, too; an ARCHER is "
            + "LAME).");
        ToothField x = Sown.sown(KINDS);
        said.due(x, "as 0 0 = 1", "as 0 1 = CAST", "fault = 2", "as 0 2 = CAST", "as 1 0 = 1", "fault = 0",
            "as 1 1 = 1", "as 1 2 = CAST", "as 2 0 = 1", "as 2 1 = 1", "as 2 2 = 1", "as 0 3 = OUTSIDE", "fault = 0",
            "as 0 -1 = OUTSIDE", "as 0 MIN = OUTSIDE", "as 0 MAX = OUTSIDE", "as 3 0 = UNKNOWN", "as -1 0 = UNKNOWN",
            "as MIN 0 = UNKNOWN", "as MAX 0 = UNKNOWN", "as 3 3 = UNKNOWN", "trace = 0");
        said.due(new ToothField(), "as 0 0 = UNKNOWN", "as 0 3 = UNKNOWN");
    }

    private void tracePromise() {
        said.promise(36, "TRACE.");
        ToothField x = new ToothField();
        said.due(x, "trace = 0");
        Sown.read(x, KINDS);
        said.due(x, "trace = 0", "tell 0 = 3", "trace = 1", "trace = 1", "as 2 1 = 1", "ofMan 2 2 = 5", "coin 0 = 8",
            "trace = 1");
    }

    private void faultPromise() {
        said.promise(37,
            "The FAULT of the latest call that names one: 0: it came to none, or was refused (0 ahead of any).");
        ToothField x = new ToothField();
        said.due(x, "fault = 0", "put 0 0 0 = NULL", "fault = 1", "fault = 1", "put 4 0 0 = UNKNOWN", "fault = 0",
            "sheet 0 0 -1 = SIZE", "fault = 4", "sheet 0 0 1 = 1", "fault = 0", "put 0 1 0 = INDEX", "fault = 3",
            "put 0 0 0 = 1", "fault = 0", "cell 0 0 1 = LOST", "fault = 2", "cell 0 0 0 = 0", "fault = 0",
            "copy 0 0 1 0 0 = NULL", "fault = 1", "copy 0 0 0 0 1 = 1", "fault = 0", "row 0 0 0 2 = INDEX", "fault = 3",
            "row 0 0 0 1 = STATE", "fault = 0", "field 0 1 0 1 = CAST", "fault = 2", "field 0 0 0 1 = -100",
            "fault = 0");
    }

    /** Calls that name no FAULT, refused or not. */
    private void faultStays() {
        said.promise(37, "the latest call that names one");
        String[] calls = {"sign 0", "sign 9", "ofMan 0 0", "ofMan 9 0", "far 0 1", "far 9 9", "law 1", "law 9",
            "stone 0 0", "stone 9 0", "undo 0", "undo 9", "stands 0", "stands 30", "foe 0 0", "foe 9 0", "armour 0 0",
            "armour 9 0", "left", "falls 0", "falls 9", "cast 0 0", "cast 30 0", "save 0 0", "save 9 0", "cull 0",
            "cull 9", "sow 0", "sow 2", "worth 0", "worth 9", "game 0", "game 2", "reading 0 0 true",
            "reading 9 0 true", "back 0", "back 9", "whence 0", "whence 30", "laws", "kinds 0", "kinds 9", "odds 0 0",
            "odds 9 0", "coin 0", "coin 2", "lose 0", "lose 9", "tell 0", "tell 9", "swear 0", "swear 9", "trace",
            "fault", "many 0", "many 9"};
        ToothField x = Sown.sown(KINDS);
        x.as(0, 2);
        for (String call : calls) {
            Calls.answer(x, call);
            said.due(x, "fault = 2");
        }
    }

    private void manyPromise() {
        said.promise(38, "How many: 0 CELLS, 1 MEN, 2 STONES, 3 READINGS, 4 the LAW (0 all without a FIELD). OUTSIDE.");
        said.due(new ToothField(), "many 0 = 0", "many 1 = 0", "many 2 = 0", "many 3 = 0", "many 4 = 0",
            "many 5 = OUTSIDE", "many -1 = OUTSIDE", "many MIN = OUTSIDE", "many MAX = OUTSIDE");
        said.due(States.full(), "many 0 = 3", "many 1 = 2", "many 2 = 6", "many 3 = 8", "many 4 = 2",
            "many 5 = OUTSIDE", "many -1 = OUTSIDE");
        said.due(Sown.sown("z45;m011m011.m011m011;.....;m011m011.m011m011;....."), "many 0 = 20", "many 1 = 8");
    }
}
