/** The edges of "1 the field": its terms, and promises 1 to 8. */
final class FieldEdges {
    /** Eight MEN, a CELL in which nothing is, and room for one more. */
    private static final String EIGHT = "z25;m011m011m011m011m011;m011m011m011";

    private final Said said;

    FieldEdges(Said said) {
        this.said = said;
    }

    void all() {
        newObject();
        high();
        wide();
        rowsOfCells();
        codesOfCells();
        codesOfMen();
        eightAtMost();
        ninthMan();
        endsTooSoon();
        firstOfSeveral();
        codes();
        kinds();
        takenMakesAllAnew();
        notTakenChangesNothing();
        reach();
        blow();
        far();
        field();
        fieldFromTo();
        fieldOfALane();
        fieldOutside();
        fieldFaults();
        sign();
        ofMan();
        ofManDigits();
        farUnknown();
        law();
        stone();
        stoneFull();
        undo();
    }

    private void newObject() {
        said.promise(1, "No FIELD (no CELLS, MEN), SHEETS have nothing.");
        ToothField x = new ToothField();
        said.due(x, "many 0 = 0", "many 1 = 0", "sign 0 = UNKNOWN", "ofMan 0 0 = UNKNOWN", "left = STATE",
            "laws = STATE");
        for (int k = 0; k < 4; k++) {
            for (int lane = 0; lane < 3; lane++) {
                said.due(x, "cell " + k + " 0 " + lane + " = LOST", "fault = 1");
            }
            said.is(x, "lose " + k, 0);
        }
    }

    /** Of all codes only those of 'with' go on behind a beginning (none may end the TEXT). */
    private void goesOn(String beginning, String with) {
        int length = beginning.length();
        ToothField x = null;
        for (int code = -130; code <= 260; code++) {
            if ((code + 130) % 200 == 0) {
                x = new ToothField();
                x.sheet(0, 2, length + 1);
                Sown.write(x, 0, 0, beginning);
            }
            x.put(0, length, code);
            int place = with.indexOf(code) >= 0 ? length + 1 : length;
            said.is(x, "field 0 2 0 " + (length + 1), -100 - place);
        }
    }

    private void taken(String text, int men) {
        said.holds(text + " is taken", Sown.read(new ToothField(), text) == men);
    }

    private void firstFault(String text, int place) {
        int answer = Sown.read(new ToothField(), text);
        said.holds(text + " answers " + answer + ", due is " + (-100 - place), answer == -100 - place);
    }

    private static String empty(int high, int wide) {
        return "z" + high + wide + (";" + ".".repeat(wide)).repeat(high);
    }

    private void high() {
        said.terms("1 A FIELD by a TEXT: z, a digit 1 .. 4 (HIGH),");
        goesOn("", "z");
        goesOn("z", "1234");
        taken(empty(1, 3), 0);
        taken(empty(4, 3), 0);
        firstFault(empty(0, 3), 1);
        firstFault(empty(5, 3), 1);
    }

    private void wide() {
        said.terms("a digit 2 .. 5 (WIDE),");
        goesOn("z2", "2345");
        taken(empty(2, 2), 0);
        taken(empty(2, 5), 0);
        firstFault(empty(2, 1), 2);
        firstFault(empty(2, 6), 2);
    }

    /** One MAN in each CELL of each FIELD in turn. */
    private void rowsOfCells() {
        said.terms("then HIGH times: ; and WIDE CELLS, numbered from 0 on by rows from above, in a row from the left:");
        for (int high = 1; high <= 4; high++) {
            for (int wide = 2; wide <= 5; wide++) {
                for (int c = 0; c < high * wide; c++) {
                    oneMan(high, wide, c);
                }
            }
        }
    }

    private void oneMan(int high, int wide, int c) {
        String text = empty(high, wide);
        int at = 3 + c / wide * (wide + 1) + 1 + c % wide;
        ToothField x = Sown.sown(text.substring(0, at) + "m123" + text.substring(at + 1));
        said.is(x, "many 0", high * wide);
        said.is(x, "ofMan 0 4", c);
        for (int d = 0; d < high * wide; d++) {
            said.is(x, "sign " + d, d == c ? 0 : -9);
        }
        said.is(x, "sign " + high * wide, -1);
    }

    private void codesOfCells() {
        said.terms(". (nothing), or a letter,");
        goesOn("z12", ";");
        goesOn("z12;", ".mla");
        goesOn("z13;.", ".mla");
        goesOn("z13;m011", ".mla");
        goesOn("z22;..", ";");
        goesOn("z22;m011m011", ";");
        goesOn("z22;..;", ".mla");
        goesOn("z12;..", "");
        goesOn("z45;.....;.....;.....;.....", "");
    }

    private void codesOfMen() {
        said.terms("a digit 0, 1 (DRAGON), a digit 1 .. 9 (STRENGTH), a digit 1 .. 9 (ARMOUR): a MAN;");
        for (String letter : new String[] {"m", "l", "a"}) {
            goesOn("z12;" + letter, "01");
            goesOn("z12;" + letter + "0", "123456789");
            goesOn("z12;" + letter + "1", "123456789");
            goesOn("z12;" + letter + "01", "123456789");
            goesOn("z12;" + letter + "19", "123456789");
        }
        goesOn("z13;.m01", "123456789");
    }

    private void eightAtMost() {
        said.terms("MEN are numbered from 0 on as they come, 8 at most.");
        taken(EIGHT + "..", 8);
        ToothField x = Sown.sown(EIGHT + "..");
        for (int m = 0; m < 8; m++) {
            said.is(x, "ofMan " + m + " 4", m);
            said.is(x, "sign " + m, m);
        }
        said.due(x, "ofMan 8 4 = UNKNOWN", "sign 8 = NONE", "sign 9 = NONE", "many 1 = 8");
    }

    private void ninthMan() {
        said.terms("FIRST FAULT: the place (from 0 on) of the first code with which no TEXT goes on (the letter of "
            + "a ninth MAN);");
        firstFault(EIGHT + "m011.", EIGHT.length());
        firstFault(EIGHT + ".l011", EIGHT.length() + 1);
        firstFault(EIGHT + ".a", EIGHT.length() + 1);
        goesOn(EIGHT, ".");
        firstFault("", 0);
        firstFault("m", 0);
        firstFault(empty(4, 5) + ".", 27);
    }

    private void endsTooSoon() {
        said.terms("how many codes there are, if it just ends too soon.");
        for (String text : new String[] {EIGHT + "..", empty(4, 5), "z32;.a199;l055m011;m091."}) {
            for (int n = 0; n < text.length(); n++) {
                firstFault(text.substring(0, n), n);
            }
            firstFault(text + ".", text.length());
        }
    }

    private void firstOfSeveral() {
        said.terms("the first code with which no TEXT goes on");
        firstFault("x92;m", 0);
        firstFault("z99;m", 1);
        firstFault("z19;m", 2);
        firstFault("z12mm", 3);
        firstFault("z12;m9", 5);
        firstFault("z12;m00.", 6);
        firstFault("z12;m010.", 7);
        firstFault("z12;m0111", 8);
        firstFault("z12;...x", 6);
    }

    private void codes() {
        said.terms("(Codes: z 122, m 109, l 108, a 97, ; 59, . 46, digits 48 .. 57.)");
        ToothField x = new ToothField();
        int[] text = {122, 49, 53, 59, 109, 48, 49, 57, 108, 49, 50, 56, 97, 48, 57, 49, 46, 46};
        x.sheet(0, 0, text.length);
        for (int i = 0; i < text.length; i++) {
            x.put(0, i, text[i]);
        }
        said.due(x, "field 0 0 0 18 = 3", "many 0 = 5", "ofMan 0 0 = 0", "ofMan 0 1 = 0", "ofMan 0 2 = 1",
            "ofMan 0 3 = 9", "ofMan 1 0 = 1", "ofMan 1 1 = 1", "ofMan 1 2 = 2", "ofMan 1 3 = 8", "ofMan 2 0 = 2",
            "ofMan 2 1 = 0", "ofMan 2 2 = 9", "ofMan 2 3 = 1");
        firstFault("Z12;..", 0);
        firstFault("z12;M011.", 4);
        firstFault("z12;L011.", 4);
        firstFault("z12;A011.", 4);
        firstFault("z12:..", 3);
        firstFault("z12;,.", 4);
    }

    private void kinds() {
        said.terms("Kinds: 0 MAN (m); 1 LAME (l), a MAN; 2 ARCHER (a), a LAME.");
        ToothField x = Sown.sown("z13;m011l011a011");
        said.due(x, "ofMan 0 0 = 0", "ofMan 1 0 = 1", "ofMan 2 0 = 2", "as 0 0 = 1", "as 0 1 = CAST", "as 0 2 = CAST",
            "as 1 0 = 1", "as 1 1 = 1", "as 1 2 = CAST", "as 2 0 = 1", "as 2 1 = 1", "as 2 2 = 1");
    }

    private void takenMakesAllAnew() {
        said.terms("A TEXT that is taken makes all anew: the LAW is 0, no STONES, no READINGS.");
        ToothField x = States.full();
        said.due(x, "many 2 = 6", "many 3 = 8", "many 4 = 2", "field 3 1 0 13 = 2", "many 2 = 0", "many 3 = 0",
            "many 4 = 0", "left = 3", "laws = 7", "undo 1 = OUTSIDE", "back 1 = OUTSIDE", "stone 0 0 = 0",
            "reading 0 0 true = 0", "law 0 = 0", "armour 1 29 = -1");
        said.is(States.full(), "field 3 1 0 13", 2);
        ToothField y = States.full();
        Sown.read(y, "z12;..");
        said.due(y, "many 0 = 2", "many 1 = 0", "many 2 = 0", "many 3 = 0", "many 4 = 0", "left = 0",
            "ofMan 0 0 = UNKNOWN", "sign 1 = NONE", "sign 2 = UNKNOWN");
    }

    /** A TEXT of less, of more MEN that breaks off at its end. */
    private void notTakenChangesNothing() {
        said.terms("A TEXT that is taken makes all anew");
        ToothField x = States.full();
        String before = States.look(x);
        ToothField y = States.full();
        y.lose(3);
        said.holds("a wider one is not taken", Sown.read(y, "z25;m199a011l122..;m111m111m111m111") < -100);
        y.sheet(3, 1, States.PAIR.length());
        Sown.write(y, 3, 0, States.PAIR);
        said.holds("it changes nothing", States.look(y).equals(before));
        said.due(States.full(), "field 3 1 0 12 = -112", "fault = 0", "many 2 = 6", "many 3 = 8", "many 4 = 2");
    }

    private void reach() {
        said.terms("REACH: a MAN and a LAME one 1; an ARCHER 2 more.");
        said.due(Sown.sown("z13;m011l011a011"), "ofMan 0 5 = 1", "ofMan 1 5 = 1", "ofMan 2 5 = 3");
        ToothField near = Sown.sown("z14;m011m011.a011");
        near.stone(0, 0);
        said.due(near, "falls 1 = 0");
        ToothField man = Sown.sown("z13;m011.m011");
        man.stone(0, 0);
        said.due(man, "foe 0 0 = NONE", "left = 3");
        ToothField lame = Sown.sown("z13;l011.m011");
        lame.stone(0, 0);
        said.due(lame, "foe 0 0 = NONE", "left = 3");
        ToothField archer = Sown.sown("z14;a011..m019");
        archer.stone(0, 0);
        said.due(archer, "far 0 1 = 3", "foe 0 0 = 1");
        ToothField beyond = Sown.sown("z15;a011...m019");
        beyond.stone(0, 0);
        said.due(beyond, "far 0 1 = 4", "foe 0 0 = NONE");
    }

    private void blow() {
        said.terms("BLOW: a MAN its STRENGTH; a LAME one the half of that (cut), 1 at least; an ARCHER 1 more than "
            + "a LAME one would.");
        int[] halves = {1, 1, 1, 2, 2, 3, 3, 4, 4};
        for (int s = 1; s <= 9; s++) {
            ToothField x = Sown.sown("z13;m0" + s + "1l0" + s + "1a0" + s + "1");
            said.is(x, "ofMan 0 6", s);
            said.is(x, "ofMan 1 6", halves[s - 1]);
            said.is(x, "ofMan 2 6", halves[s - 1] + 1);
            for (String letter : new String[] {"m", "l", "a"}) {
                ToothField y = Sown.sown("z12;" + letter + "0" + s + "1m019");
                y.stone(0, 0);
                said.is(y, "armour 1 0", 9 - y.ofMan(0, 6));
            }
        }
    }

    private void far() {
        said.terms("FAR: how many rows and how many places in a row two are apart, together.");
        ToothField x = Sown.sown("z45;m011...m011;.m011...;..m011m011.;m011...m011");
        said.due(x, "far 0 0 = 0", "far 0 1 = 4", "far 0 2 = 2", "far 0 3 = 4", "far 0 4 = 5", "far 0 5 = 3",
            "far 0 6 = 7", "far 1 2 = 4", "far 1 5 = 7", "far 1 6 = 3", "far 2 3 = 2", "far 3 2 = 2", "far 3 4 = 1",
            "far 6 0 = 7", "far 6 6 = 0", "far 5 1 = 7");
    }

    private void field() {
        said.promise(2,
            "A FIELD by a TEXT of n cells of a SHEET from i on, taken as a row of a LANE: how many MEN; -100 less "
            + "the FIRST FAULT.");
        taken("z12;..", 0);
        taken("z12;.m011", 1);
        taken(EIGHT + "..", 8);
        firstFault("", 0);
        firstFault("z12;.", 5);
        firstFault("z12;..z12;..", 6);
    }

    /** The place of the FIRST FAULT is counted from the TEXT's first code on. */
    private void fieldFromTo() {
        said.promise(2, "n cells of a SHEET from i on");
        ToothField x = new ToothField();
        x.sheet(0, 0, 60);
        Sown.write(x, 0, 0, "zz12;m0115m055z22;..;..");
        Sown.write(x, 0, 54, "z12;..");
        said.due(x, "field 0 0 54 6 = 0", "field 0 0 54 5 = -105", "field 0 0 55 5 = -100", "field 0 0 60 0 = -100",
            "field 0 0 14 9 = 0", "many 0 = 4", "field 0 0 14 10 = -109", "field 0 0 14 8 = -108",
            "field 0 0 1 9 = -108", "field 0 0 1 8 = -108", "field 0 0 0 60 = -101", "field 0 0 1 0 = -100",
            "many 0 = 4");
    }

    private void fieldOfALane() {
        said.promise(2, "taken as a row of a LANE");
        for (int lane = 0; lane < 3; lane++) {
            ToothField x = new ToothField();
            x.sheet(lane, lane, 6);
            Sown.write(x, lane, 0, "z12;..");
            for (int other = 0; other < 3; other++) {
                said.is(x, "field " + lane + " " + other + " 0 6", other == lane ? 0 : -12);
            }
            x.put(lane, 0, 122 + 256);
            said.is(x, "field " + lane + " " + lane + " 0 6", lane == 0 ? 0 : -100);
            x.put(lane, 0, 122 + 65536);
            said.is(x, "field " + lane + " " + lane + " 0 6", lane <= 1 ? 0 : -100);
        }
    }

    private void fieldOutside() {
        said.promise(2, "UNKNOWN; OUTSIDE: lane;");
        said.due(States.full(), "field -1 1 0 13 = UNKNOWN", "field 4 1 0 13 = UNKNOWN", "field MIN 1 0 13 = UNKNOWN",
            "field MAX 1 0 13 = UNKNOWN", "field 3 -1 0 13 = OUTSIDE", "field 3 3 0 13 = OUTSIDE",
            "field 3 MIN 0 13 = OUTSIDE", "field 3 MAX 0 13 = OUTSIDE", "field 1 3 0 13 = OUTSIDE");
    }

    private void fieldFaults() {
        said.promise(2,
            "FAULTS CAST (nothing is no CAST), NULL, SIZE: n is below 0, INDEX: not all cells are there; -100 less "
            + "it.");
        ToothField x = States.full();
        said.due(x, "field 1 0 0 13 = NULL", "field 1 1 0 13 = NULL", "field 1 2 0 13 = NULL", "field 3 0 0 13 = CAST",
            "field 3 2 0 13 = CAST", "field 3 1 0 -1 = SIZE", "field 3 1 0 MIN = SIZE", "field 3 1 0 14 = INDEX",
            "field 3 1 1 13 = INDEX", "field 3 1 13 1 = INDEX", "field 3 1 14 0 = INDEX", "field 3 1 -1 14 = INDEX",
            "field 3 1 -1 0 = INDEX", "field 3 1 MIN MAX = INDEX", "field 3 1 13 MAX = INDEX",
            "field 3 1 MAX MAX = INDEX", "field 3 1 1 MAX = INDEX", "fault = 3", "field 3 1 0 12 = -112", "fault = 0",
            "field 3 1 0 13 = 2", "fault = 0");
    }

    private void sign() {
        said.promise(3, "The MAN in a CELL at first; NONE: nothing. UNKNOWN.");
        ToothField x = Sown.sown("z22;.m055;m051.");
        said.due(x, "sign 0 = NONE", "sign 1 = 0", "sign 2 = 1", "sign 3 = NONE", "sign 4 = UNKNOWN",
            "sign -1 = UNKNOWN", "sign MIN = UNKNOWN", "sign MAX = UNKNOWN");
        ToothField y = Sown.sown("z12;m055m051");
        y.stone(0, 0);
        said.due(y, "left = 1", "sign 1 = 1");
        said.due(new ToothField(), "sign 0 = UNKNOWN");
    }

    private void ofMan() {
        said.promise(4, "Of a MAN: 0 kind, 1 DRAGON, 2 STRENGTH, 3 ARMOUR, 4 CELL, 5 REACH, 6 BLOW. UNKNOWN; OUTSIDE.");
        ToothField x = Sown.sown("z22;.a178;m011.");
        said.due(x, "ofMan 0 0 = 2", "ofMan 0 1 = 1", "ofMan 0 2 = 7", "ofMan 0 3 = 8", "ofMan 0 4 = 1",
            "ofMan 0 5 = 3", "ofMan 0 6 = 4", "ofMan 0 7 = OUTSIDE", "ofMan 0 -1 = OUTSIDE", "ofMan 0 MIN = OUTSIDE",
            "ofMan 0 MAX = OUTSIDE", "ofMan 2 0 = UNKNOWN", "ofMan -1 0 = UNKNOWN", "ofMan MIN 0 = UNKNOWN",
            "ofMan MAX 0 = UNKNOWN", "ofMan 2 -1 = UNKNOWN");
        x.stone(0, 0);
        said.due(x, "falls 1 = 0", "ofMan 1 3 = 1", "ofMan 1 4 = 2");
    }

    private void ofManDigits() {
        said.promise(4, "1 DRAGON, 2 STRENGTH, 3 ARMOUR");
        for (int v = 1; v <= 9; v++) {
            ToothField x = Sown.sown("z12;m0" + v + (10 - v) + "l1" + (10 - v) + v);
            said.is(x, "ofMan 0 1", 0);
            said.is(x, "ofMan 1 1", 1);
            said.is(x, "ofMan 0 2", v);
            said.is(x, "ofMan 0 3", 10 - v);
            said.is(x, "ofMan 1 2", 10 - v);
            said.is(x, "ofMan 1 3", v);
        }
    }

    private void farUnknown() {
        said.promise(5, "FAR. UNKNOWN.");
        ToothField x = Sown.sown("z22;.m055;m051.");
        said.due(x, "far 0 1 = 2", "far 1 0 = 2", "far 1 1 = 0", "far 0 2 = UNKNOWN", "far 2 0 = UNKNOWN",
            "far -1 0 = UNKNOWN", "far 0 -1 = UNKNOWN", "far MIN 0 = UNKNOWN", "far 0 MAX = UNKNOWN",
            "far 2 2 = UNKNOWN");
        said.due(new ToothField(), "far 0 0 = UNKNOWN");
        said.due(Sown.sown("z12;.."), "far 0 0 = UNKNOWN");
    }

    private void law() {
        said.promise(6, "The LAW becomes v: what it was. OUTSIDE; STATE: there is no FIELD.");
        said.due(new ToothField(), "law 0 = STATE", "law 2 = STATE", "law 3 = OUTSIDE", "law -1 = OUTSIDE",
            "law MIN = OUTSIDE", "law MAX = OUTSIDE", "many 4 = 0");
        said.due(Sown.sown("z12;.."), "law 2 = 0", "law 3 = OUTSIDE", "law -1 = OUTSIDE", "law 1 = 2", "law 1 = 1",
            "law 0 = 1", "law 0 = 0", "many 4 = 0");
    }

    private void stone() {
        said.promise(7, "A STONE: its number. UNKNOWN: MAN; OUTSIDE: minute (0 .. 29);");
        ToothField x = Sown.sown("z12;m055m134");
        said.due(x, "stone 2 0 = UNKNOWN", "stone -1 0 = UNKNOWN", "stone MIN 0 = UNKNOWN", "stone MAX 0 = UNKNOWN",
            "stone 0 30 = OUTSIDE", "stone 0 -1 = OUTSIDE", "stone 0 MIN = OUTSIDE", "stone 0 MAX = OUTSIDE",
            "many 2 = 0", "stone 0 29 = 0", "falls 1 = 29", "stone 0 0 = 1", "falls 1 = 0", "many 2 = 2");
        said.due(new ToothField(), "stone 0 0 = UNKNOWN");
        said.due(Sown.sown("z12;.."), "stone 0 0 = UNKNOWN");
    }

    private void stoneFull() {
        said.promise(7, "FULL.");
        ToothField x = Sown.sown("z12;m055m134");
        for (int s = 0; s < 6; s++) {
            said.is(x, "stone 1 29", s);
        }
        said.due(x, "stone 0 0 = FULL", "left = 3", "many 2 = 6", "undo 1 = 5", "stone 0 0 = 5", "left = 1",
            "stone 0 0 = FULL", "undo 6 = 0", "left = 3", "stone 0 0 = 0");
    }

    private void undo() {
        said.promise(8, "The last k STONES (0 .. as many as there are) are taken back: how many are left. OUTSIDE.");
        ToothField x = Sown.sown("z12;m055m134");
        said.due(x, "undo 0 = 0", "undo 1 = OUTSIDE", "undo -1 = OUTSIDE", "stone 0 9 = 0", "stone 0 5 = 1",
            "stone 0 3 = 2", "undo 4 = OUTSIDE", "undo -1 = OUTSIDE", "undo MIN = OUTSIDE", "undo MAX = OUTSIDE",
            "falls 1 = 3", "undo 0 = 3", "falls 1 = 3", "undo 1 = 2", "falls 1 = 5", "undo 1 = 1", "falls 1 = 9",
            "stone 1 29 = 1", "undo 2 = 0", "falls 1 = NONE", "undo 0 = 0", "undo 1 = OUTSIDE");
        said.due(new ToothField(), "undo 0 = 0", "undo 1 = OUTSIDE", "undo -1 = OUTSIDE");
    }
}
