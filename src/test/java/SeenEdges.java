/** The edges of "4 what was seen": its terms, and promises 20 to 27. */
final class SeenEdges {
    /** A STONE on 0 fells 1 at once; one on 1 fells both a MINUTE later. */
    private static final String PAIR = "z12;m055m134";

    private final Said said;

    SeenEdges(Said said) {
        this.said = said;
    }

    void all() {
        eightReadings();
        asAMinuteEnded();
        whence();
        whenceBesideSix();
        laws();
        kinds();
        kindsInPlaceOfHisOwn();
        odds();
        oddsOfSix();
        coin();
        readingPromise();
        readingFull();
        backPromise();
        whencePromise();
        lawsPromise();
        kindsPromise();
        oddsPromise();
        coinPromise();
        row();
        rowInPlaceOfAllStones();
        rowRefusals();
        rowFaults();
        rowWithoutAField();
        rowAboveThirty();
        rowOfNoMan();
    }

    private void eightReadings() {
        said.terms("4 READINGS, 8 at most, numbered by how many there are:");
        ToothField x = Sown.sown(PAIR);
        for (int r = 0; r < 8; r++) {
            said.is(x, "reading 0 " + r + " true", r);
        }
        said.due(x, "reading 0 0 true = FULL", "many 3 = 8", "back 3 = 5", "reading 1 0 true = 5",
            "reading 1 0 true = 6", "reading 1 0 true = 7", "reading 1 0 false = FULL", "laws = 7");
    }

    /** In the MINUTE in which he falls he does not stand any more as it ends. */
    private void asAMinuteEnded() {
        said.terms("as a MINUTE ended a MAN stood, or did not.");
        ToothField x = Sown.sown(PAIR, "stone 0 4");
        said.due(x, "reading 1 3 true = 0", "reading 1 4 false = 1", "reading 1 29 false = 2", "reading 0 29 true = 3",
            "laws = 7", "back 4 = 0", "reading 1 4 true = 0", "laws = 0", "back 1 = 0", "reading 1 3 false = 0",
            "laws = 0", "back 1 = 0", "reading 0 29 false = 0", "laws = 0");
    }

    private void whence() {
        said.terms("WHENCE in a MINUTE: MEN such that one STONE more on him in it makes all READINGS so, as a set.");
        said.due(Sown.sown(PAIR), "whence 0 = 3", "whence 29 = 3");
        said.due(Sown.sown(PAIR, "reading 1 0 false"), "whence 0 = 1", "whence 1 = 0");
        said.due(Sown.sown(PAIR, "reading 1 0 true", "reading 1 1 false"), "whence 0 = 2", "whence 1 = 1",
            "whence 2 = 0");
        said.due(Sown.sown(PAIR, "reading 1 1 false"), "whence 0 = 3", "whence 1 = 1");
        said.due(Sown.sown(PAIR, "reading 1 29 false"), "whence 29 = 1", "whence 28 = 3");
        said.due(Sown.sown(PAIR, "reading 1 0 false", "reading 1 1 true"), "whence 0 = 0");
    }

    private void whenceBesideSix() {
        said.terms("one STONE more on him in it makes all READINGS so");
        ToothField x = Sown.sown(PAIR, "stone 1 29", "stone 1 29", "stone 1 29", "stone 1 29", "stone 1 29",
            "stone 1 29", "reading 1 0 false");
        said.due(x, "many 2 = 6", "whence 0 = 1", "whence 1 = 0", "many 2 = 6");
    }

    private void laws() {
        said.terms("LAWS: those (0 .. 2) by which all READINGS are so, as a set.");
        said.due(Sown.sown(PAIR), "laws = 7");
        said.due(Sown.sown("z12;m055m034", "stone 0 0", "reading 1 0 false"), "laws = 5");
        said.due(Sown.sown("z12;m055m034", "stone 0 0", "reading 1 0 true"), "laws = 2");
        said.due(Sown.sown("z13;m051m059m151", "stone 1 0", "reading 0 0 false"), "laws = 1");
        said.due(Sown.sown("z13;m051m059m151", "stone 1 0", "reading 0 0 true"), "laws = 6");
        said.due(Sown.sown(PAIR, "reading 0 0 true", "reading 0 0 false"), "laws = 0");
        said.due(Sown.sown("z12;m055m034", "law 1", "stone 0 0", "reading 1 0 false"), "laws = 5", "many 4 = 1");
        said.due(Sown.sown("z12;m055m034", "stone 0 29", "reading 1 29 false"), "laws = 5");
    }

    /** A MAN of STRENGTH 5 fells 1 at once; a lame one (BLOW 2) and an archer (3) do not. */
    private void kinds() {
        said.terms("KINDS of a MAN: those (0 .. 2),");
        said.due(Sown.sown(PAIR), "kinds 0 = 7", "kinds 1 = 7");
        said.due(Sown.sown(PAIR, "stone 0 0", "reading 1 0 false"), "kinds 0 = 1", "kinds 1 = 7");
        said.due(Sown.sown(PAIR, "stone 0 0", "reading 1 0 true"), "kinds 0 = 6", "kinds 1 = 0");
        said.due(Sown.sown(PAIR, "stone 0 0", "reading 1 0 true", "reading 0 0 false"), "kinds 0 = 0");
        said.due(Sown.sown("z13;m055.m134", "stone 0 0", "reading 1 1 false"), "kinds 0 = 4", "kinds 1 = 0");
    }

    private void kindsInPlaceOfHisOwn() {
        said.terms("in place of his own, by which all READINGS are so, as a set.");
        for (String own : new String[] {"m", "l", "a"}) {
            ToothField x = Sown.sown("z12;" + own + "055m134", "stone 0 0", "reading 1 0 false");
            int kind = x.ofMan(0, 0);
            said.due(x, "kinds 0 = 1");
            said.is(x, "ofMan 0 0", kind);
            said.is(x, "laws", own.equals("m") ? 7 : 0);
        }
    }

    private void odds() {
        said.terms("ODDS of a MAN: if each STONE is thrown, or not, all such sets alike: the share of those by "
            + "which he is LEFT.");
        said.due(Sown.sown(PAIR), "odds 0 0 = 1", "odds 0 1 = 1");
        said.due(Sown.sown(PAIR, "stone 0 0"), "odds 0 0 = 1", "odds 0 1 = 1", "odds 1 0 = 1", "odds 1 1 = 2");
        said.due(Sown.sown(PAIR, "stone 0 0", "stone 1 0"), "odds 0 0 = 3", "odds 0 1 = 4", "odds 1 0 = 1",
            "odds 1 1 = 4");
        said.due(Sown.sown(PAIR, "stone 1 0", "stone 1 0"), "odds 0 0 = 1", "odds 0 1 = 4");
        said.due(Sown.sown(PAIR, "stone 1 29", "stone 1 29"), "odds 0 0 = 1", "odds 0 1 = 1");
    }

    private void oddsOfSix() {
        said.terms("if each STONE is thrown, or not, all such sets alike");
        ToothField x = Sown.sown(PAIR, "stone 0 0", "stone 0 1", "stone 0 2", "stone 0 3", "stone 0 4", "stone 0 5");
        said.due(x, "odds 1 0 = 1", "odds 1 1 = 64", "odds 0 0 = 1", "odds 0 1 = 1", "many 2 = 6", "left = 1");
        ToothField y = Sown.sown("z12;m055m055", "stone 0 0", "stone 1 1", "stone 0 2", "stone 1 3", "stone 0 4",
            "stone 1 5");
        said.due(y, "odds 0 0 = 43", "odds 0 1 = 64", "odds 1 0 = 11", "odds 1 1 = 32");
    }

    /** STRENGTH, not the BLOW. */
    private void coin() {
        said.terms("COIN of a DRAGON: STRENGTHS of its MEN that are LEFT, summed up.");
        said.due(Sown.sown("z15;m095l095a091m131l121"), "coin 0 = 27", "coin 1 = 5");
        said.due(Sown.sown("z12;.."), "coin 0 = 0", "coin 1 = 0");
        said.due(Sown.sown(PAIR, "stone 0 29"), "coin 0 = 5", "coin 1 = 0");
        said.due(Sown.sown(PAIR, "stone 1 0"), "coin 0 = 0", "coin 1 = 0");
        said.due(Sown.sown("z25;m091m091m091m091m091;m091m091m091.."), "coin 0 = 72", "coin 1 = 0");
    }

    private void readingPromise() {
        said.promise(20, "A READING: its number. UNKNOWN; OUTSIDE: minute;");
        said.due(Sown.sown(PAIR), "reading 2 0 true = UNKNOWN", "reading -1 0 false = UNKNOWN",
            "reading MIN 0 true = UNKNOWN", "reading MAX 0 true = UNKNOWN", "reading 0 30 true = OUTSIDE",
            "reading 0 -1 false = OUTSIDE", "reading 0 MIN true = OUTSIDE", "reading 0 MAX true = OUTSIDE",
            "reading 2 30 true = UNKNOWN", "many 3 = 0", "reading 0 0 false = 0", "reading 1 29 true = 1",
            "many 3 = 2");
        said.due(new ToothField(), "reading 0 0 true = UNKNOWN", "reading 0 30 true = UNKNOWN");
        said.due(Sown.sown("z12;.."), "reading 0 0 true = UNKNOWN");
    }

    private void readingFull() {
        said.promise(20, "FULL.");
        ToothField x = Sown.sown(PAIR);
        for (int r = 0; r < 8; r++) {
            said.is(x, "reading 1 29 true", r);
        }
        said.due(x, "reading 0 0 false = FULL", "laws = 7", "reading 2 0 true = UNKNOWN", "reading 0 30 true = OUTSIDE",
            "many 3 = 8", "back 1 = 7", "reading 0 0 false = 7", "laws = 0", "reading 0 0 true = FULL");
    }

    private void backPromise() {
        said.promise(21, "The last k READINGS (0 .. as many as there are) are taken back: how many are left. OUTSIDE.");
        said.due(new ToothField(), "back 0 = 0", "back 1 = OUTSIDE", "back -1 = OUTSIDE");
        said.due(Sown.sown(PAIR, "reading 0 0 true", "reading 0 1 true", "reading 1 0 false"), "laws = 0",
            "back 4 = OUTSIDE", "back -1 = OUTSIDE", "back MIN = OUTSIDE", "back MAX = OUTSIDE", "many 3 = 3",
            "back 0 = 3", "laws = 0", "back 1 = 2", "laws = 7", "back 2 = 0", "back 0 = 0", "back 1 = OUTSIDE");
        said.due(Sown.sown(PAIR, "reading 1 0 false", "reading 0 1 true"), "back 1 = 1", "laws = 0", "back 1 = 0",
            "laws = 7");
    }

    private void whencePromise() {
        said.promise(22, "WHENCE, as a set. OUTSIDE; STATE: there is no FIELD.");
        said.due(Sown.sown(PAIR), "whence 0 = 3", "whence 29 = 3", "whence 30 = OUTSIDE", "whence -1 = OUTSIDE",
            "whence MIN = OUTSIDE", "whence MAX = OUTSIDE");
        said.due(Sown.sown("z12;.."), "whence 0 = 0", "whence 30 = OUTSIDE");
        said.due(new ToothField(), "whence 0 = STATE", "whence 29 = STATE", "whence 30 = OUTSIDE",
            "whence -1 = OUTSIDE");
    }

    private void lawsPromise() {
        said.promise(23, "LAWS, as a set. STATE: there is no FIELD.");
        said.due(new ToothField(), "laws = STATE");
        said.due(Sown.sown("z12;.."), "laws = 7");
    }

    private void kindsPromise() {
        said.promise(24, "KINDS, as a set. UNKNOWN.");
        said.due(new ToothField(), "kinds 0 = UNKNOWN");
        said.due(Sown.sown("z12;.."), "kinds 0 = UNKNOWN");
        said.due(Sown.sown(PAIR), "kinds 1 = 7", "kinds 2 = UNKNOWN", "kinds -1 = UNKNOWN", "kinds MIN = UNKNOWN",
            "kinds MAX = UNKNOWN");
    }

    private void oddsPromise() {
        said.promise(25, "ODDS (which 0 the upper, 1 the lower number). LOST: UNKNOWN; OUTSIDE.");
        said.due(new ToothField(), "odds 0 0 = LOST", "odds 0 1 = LOST");
        said.due(Sown.sown("z12;.."), "odds 0 0 = LOST");
        said.due(Sown.sown(PAIR, "stone 0 0", "stone 1 0"), "odds 0 0 = 3", "odds 0 1 = 4", "odds 0 2 = LOST",
            "odds 0 -1 = LOST", "odds 0 MIN = LOST", "odds 0 MAX = LOST", "odds 2 0 = LOST", "odds -1 1 = LOST",
            "odds MIN 0 = LOST", "odds MAX 1 = LOST");
    }

    private void coinPromise() {
        said.promise(26, "COIN. OUTSIDE; STATE: there is no FIELD.");
        said.due(new ToothField(), "coin 0 = STATE", "coin 1 = STATE", "coin 2 = OUTSIDE", "coin -1 = OUTSIDE");
        said.due(Sown.sown(PAIR), "coin 0 = 5", "coin 1 = 3", "coin 2 = OUTSIDE", "coin -1 = OUTSIDE",
            "coin MIN = OUTSIDE", "coin MAX = OUTSIDE");
    }

    /** SHEET 0 tells 1, 0, 1, 1. */
    private static ToothField withRow(String text, String... calls) {
        ToothField x = Sown.sown(text, calls);
        x.sheet(0, 0, 4);
        Sown.write(x, 0, 0, "\1\0\1\1");
        return x;
    }

    private void row() {
        said.promise(27, "A ROW of n cells of a SHEET: MEN on whom STONES come in MINUTES 0, 1, ..");
        said.due(withRow(PAIR), "row 0 0 0 1 = 0", "row 0 0 1 1 = 1", "row 0 0 1 3 = 1", "row 0 0 0 4 = 0",
            "row 0 0 0 0 = 3", "row 0 0 4 0 = 3", "row 0 0 3 1 = 0");
        ToothField x = withRow("z15;m011m011.m011m011");
        said.due(x, "row 0 0 0 2 = 14", "row 0 0 1 1 = 13", "put 0 1 2 = 1", "row 0 0 0 2 = 6", "put 0 0 3 = 1",
            "row 0 0 0 3 = 10");
        x.sheet(1, 2, 30);
        x.put(1, 29, 3);
        said.due(x, "row 1 2 0 29 = 13", "row 1 2 0 30 = 9");
    }

    private void rowInPlaceOfAllStones() {
        said.promise(27, "(in place of all STONES): who is LEFT, as a set.");
        ToothField x = withRow(PAIR, "stone 1 0", "stone 1 0", "stone 1 0", "stone 1 0", "stone 1 0", "stone 1 0");
        said.due(x, "left = 0", "row 0 0 0 0 = 3", "row 0 0 1 1 = 1", "left = 0", "many 2 = 6");
        said.due(withRow("z12;m055m034", "law 1"), "row 0 0 1 1 = 3", "law 2 = 1", "row 0 0 1 1 = 1");
        said.due(withRow("z12;.."), "row 0 0 0 0 = 0");
    }

    private void rowRefusals() {
        said.promise(27, "UNKNOWN: SHEET; OUTSIDE: lane;");
        said.due(withRow(PAIR), "row 4 0 0 0 = UNKNOWN", "row -1 0 0 0 = UNKNOWN", "row MIN 0 0 0 = UNKNOWN",
            "row MAX 0 0 0 = UNKNOWN", "row 0 3 0 0 = OUTSIDE", "row 0 -1 0 0 = OUTSIDE", "row 0 MIN 0 0 = OUTSIDE",
            "row 0 MAX 0 0 = OUTSIDE", "row 4 3 0 0 = UNKNOWN", "row 1 3 0 0 = OUTSIDE", "fault = 0");
    }

    private void rowFaults() {
        said.promise(27, "FAULTS CAST, NULL, SIZE, INDEX;");
        said.due(withRow(PAIR), "row 0 1 0 1 = CAST", "fault = 2", "row 0 2 0 1 = CAST", "row 1 0 0 0 = NULL",
            "fault = 1", "row 1 1 0 0 = NULL", "row 1 2 0 0 = NULL", "row 0 0 0 -1 = SIZE", "fault = 4",
            "row 0 0 0 MIN = SIZE", "row 0 0 0 5 = INDEX", "fault = 3", "row 0 0 1 4 = INDEX", "row 0 0 -1 1 = INDEX",
            "row 0 0 5 0 = INDEX", "row 0 0 4 1 = INDEX", "row 0 0 4 MAX = INDEX", "row 0 0 MAX MAX = INDEX",
            "row 0 0 MIN MAX = INDEX", "row 0 0 0 61 = INDEX", "row 0 0 1 1 = 1", "fault = 0");
    }

    private void rowWithoutAField() {
        said.promise(27, "STATE: there is no FIELD;");
        ToothField x = new ToothField();
        x.sheet(0, 0, 40);
        said.due(x, "row 0 0 0 0 = STATE", "row 0 0 0 1 = STATE", "row 0 0 0 31 = STATE", "fault = 0",
            "row 0 0 0 41 = INDEX", "row 0 0 0 -1 = SIZE", "row 1 0 0 0 = NULL", "row 0 1 0 0 = CAST");
    }

    /** The wrong MAN in it is come to behind that. */
    private void rowAboveThirty() {
        said.promise(27, "OUTSIDE: n above 30;");
        ToothField x = Sown.sown(PAIR);
        x.sheet(0, 0, 60);
        said.due(x, "row 0 0 0 30 = 1", "row 0 0 0 31 = OUTSIDE", "row 0 0 0 60 = OUTSIDE", "row 0 0 30 30 = 1",
            "put 0 0 9 = 1", "row 0 0 0 31 = OUTSIDE", "row 0 0 0 30 = UNKNOWN", "row 0 0 0 61 = INDEX");
    }

    private void rowOfNoMan() {
        said.promise(27, "UNKNOWN: a MAN.");
        ToothField x = Sown.sown(PAIR);
        x.sheet(0, 2, 30);
        for (String v : new String[] {"2", "-1", "-9", "8", "256", "MIN", "MAX"}) {
            said.due(x, "put 0 29 " + v + " = 1", "row 0 2 0 30 = UNKNOWN", "fault = 0", "row 0 2 0 29 = 1",
                "row 0 2 29 1 = UNKNOWN");
        }
        said.due(x, "put 0 29 1 = 1", "row 0 2 0 30 = 1", "row 0 2 29 1 = 0");
        ToothField y = Sown.sown("z12;..");
        y.sheet(0, 0, 1);
        said.due(y, "row 0 0 0 1 = UNKNOWN", "row 0 0 0 0 = 0");
    }
}
