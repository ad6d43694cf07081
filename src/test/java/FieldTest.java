/** Promises 1 to 8: a new object, field, sign, ofMan, far, law, stone, undo. */
final class FieldTest {
    /** An archer, a man, a lame one; below a man, a man. */
    private static final String FIVE = "z25;a124m055.l193.;..m144.m062";

    private final Due due = new Due();

    private FieldTest() {
    }

    public static void main(String[] args) {
        FieldTest t = new FieldTest();
        t.newObject();
        t.fieldRefusals();
        t.fieldFaults();
        t.fieldTexts();
        t.fieldFirstFaults();
        t.fieldFromTheMiddle();
        t.fieldMakesAllAnew();
        t.fieldThatIsNotTaken();
        t.sign();
        t.ofMan();
        t.far();
        t.law();
        t.stone();
        t.undo();
        t.due.end();
    }

    private void newObject() {
        ToothField x = new ToothField();
        for (int what = 0; what <= 4; what++) {
            due.is("new many " + what, x.many(what), 0);
        }
        for (int k = 0; k <= 3; k++) {
            due.is("new lose " + k, x.lose(k), 0);
        }
        due.is("new sign", x.sign(0), -1);
        due.is("new left", x.left(), -3);
        due.is("new trace", x.trace(), 0);
        due.is("new fault", x.fault(), 0);
    }

    private void fieldRefusals() {
        ToothField x = new ToothField();
        due.is("no such sheet", x.field(4, 9, -1, -1), -1);
        due.is("no such sheet", x.field(-1, 0, 0, 0), -1);
        due.is("no such lane", x.field(3, 3, -1, -1), -2);
        due.is("no such lane", x.field(3, -1, 0, 0), -2);
        due.is("refused", x.fault(), 0);
    }

    private void fieldFaults() {
        ToothField x = new ToothField();
        due.is("nothing", x.field(0, 0, -1, -1), -11);
        due.is("NULL", x.fault(), 1);
        x.sheet(0, 1, 9);
        due.is("another lane", x.field(0, 0, -1, -1), -12);
        due.is("CAST", x.fault(), 2);
        due.is("another lane", x.field(0, 2, 0, 9), -12);
        due.is("n below 0", x.field(0, 1, -1, -1), -14);
        due.is("SIZE", x.fault(), 4);
        due.is("n below 0", x.field(0, 1, 0, Integer.MIN_VALUE), -14);
        due.is("i below 0", x.field(0, 1, -1, 0), -13);
        due.is("INDEX", x.fault(), 3);
        due.is("i beyond", x.field(0, 1, 10, 0), -13);
        due.is("one too many", x.field(0, 1, 0, 10), -13);
        due.is("one too many", x.field(0, 1, 5, 5), -13);
        due.is("i and n that wrap", x.field(0, 1, 9, Integer.MAX_VALUE), -13);
        due.is("i and n that wrap", x.field(0, 1, Integer.MAX_VALUE, Integer.MAX_VALUE), -13);
        due.is("no codes at the end", x.field(0, 1, 9, 0), -100);
        due.is("no FAULT", x.fault(), 0);
        x.lose(0);
        due.is("nothing again", x.field(0, 1, 0, 0), -11);
    }

    private void fieldTexts() {
        ToothField x = new ToothField();
        due.is("the least", Sown.read(x, "z12;.."), 0);
        due.is("cells", x.many(0), 2);
        due.is("men", x.many(1), 0);
        due.is("the widest", Sown.read(x, "z45;.....;.....;.....;....."), 0);
        due.is("cells", x.many(0), 20);
        due.is("five", Sown.read(x, FIVE), 5);
        due.is("cells", x.many(0), 10);
        due.is("men", x.many(1), 5);
        due.is("eight", Sown.read(x, "z25;m011m099l011l199a011;a199m011m011.."), 8);
        due.is("men", x.many(1), 8);
    }

    private void firstFault(String text, int place) {
        due.is(text, Sown.read(new ToothField(), text), -100 - place);
    }

    private void fieldFirstFaults() {
        firstFault("", 0);
        firstFault("Z12;..", 0);
        firstFault("{12;..", 0);
        firstFault("y12;..", 0);
        firstFault("z02;..", 1);
        firstFault("z52;..", 1);
        firstFault("z11;.", 2);
        firstFault("z16;......", 2);
        firstFault("z12.", 3);
        firstFault("z12:..", 3);
        firstFault("z12<..", 3);
        firstFault("z12;-.", 4);
        firstFault("z12;/.", 4);
        firstFault("z12;.;", 5);
        firstFault("z12;...", 6);
        firstFault("z12;..;", 6);
        firstFault("z22;..", 6);
        firstFault("z22;...", 6);
        firstFault("z12;b011.", 4);
        firstFault("z12;011.", 4);
        firstFault("z12;m211.", 5);
        firstFault("z12;m/11.", 5);
        firstFault("z12;m001.", 6);
        firstFault("z12;m0:1.", 6);
        firstFault("z12;m010.", 7);
        firstFault("z12;m01:.", 7);
        firstFault("z12;m011", 8);
        firstFault("z12;m011m", 9);
        firstFault("z12;m011..", 9);
        String eight = "z25;m011m011m011m011m011;m011m011m011";
        firstFault(eight, 37);
        firstFault(eight + "m011.", 37);
        firstFault(eight + ".a", 38);
        firstFault(eight + "x", 37);
        firstFault(eight + "..;", 39);
    }

    private void fieldFromTheMiddle() {
        ToothField x = new ToothField();
        x.sheet(1, 1, 12);
        Sown.write(x, 1, 0, "..z12;m055..");
        due.is("from 2 on", x.field(1, 1, 2, 9), 1);
        due.is("place in the TEXT", x.field(1, 1, 2, 10), -109);
        due.is("place in the TEXT", x.field(1, 1, 2, 8), -108);
        due.is("place in the TEXT", x.field(1, 1, 1, 9), -100);
        x.sheet(0, 2, 6);
        Sown.write(x, 0, 0, "z12;..");
        x.put(0, 0, 122 + 256);
        due.is("an int that is not cut", x.field(0, 2, 0, 6), -100);
        x.sheet(0, 0, 6);
        Sown.write(x, 0, 0, "z12;..");
        x.put(0, 0, 122 + 256);
        due.is("a byte that is cut", x.field(0, 0, 0, 6), 0);
    }

    private void fieldMakesAllAnew() {
        ToothField x = Sown.sown(FIVE);
        x.law(2);
        x.stone(1, 1);
        x.reading(1, 1, false);
        x.tell(1);
        Sown.read(x, "z12;.l111");
        due.is("anew: cells", x.many(0), 2);
        due.is("anew: men", x.many(1), 1);
        due.is("anew: stones", x.many(2), 0);
        due.is("anew: readings", x.many(3), 0);
        due.is("anew: law", x.many(4), 0);
        due.is("anew: left", x.left(), 1);
        due.is("anew: man", x.ofMan(0, 4), 1);
        due.is("TRACE stays", x.trace(), 1);
        due.is("the SHEET stays", x.cell(Sown.SHEET, 0, Sown.INTS), 122);
        due.is("field comes to no FAULT", x.fault(), 0);
    }

    private void fieldThatIsNotTaken() {
        ToothField x = Sown.sown(FIVE);
        x.law(2);
        x.stone(1, 1);
        x.reading(1, 1, false);
        due.is("not taken", Sown.read(x, "z12;l011m"), -109);
        due.is("no FAULT", x.fault(), 0);
        due.is("cells stay", x.many(0), 10);
        due.is("men stay", x.many(1), 5);
        due.is("stones stay", x.many(2), 1);
        due.is("readings stay", x.many(3), 1);
        due.is("law stays", x.many(4), 2);
        due.is("a man stays", x.ofMan(0, 0), 2);
        due.is("a cell stays", x.sign(1), 1);
    }

    private void sign() {
        ToothField x = Sown.sown(FIVE);
        int[] men = {0, 1, -9, 2, -9, -9, -9, 3, -9, 4};
        for (int c = 0; c < men.length; c++) {
            due.is("sign " + c, x.sign(c), men[c]);
        }
        due.is("sign 10", x.sign(10), -1);
        due.is("sign -1", x.sign(-1), -1);
        x.stone(0, 0);
        due.is("at first", x.sign(0), 0);
    }

    private void ofMan() {
        ToothField x = Sown.sown(FIVE);
        int[][] men = {{2, 1, 2, 4, 0, 3, 2}, {0, 0, 5, 5, 1, 1, 5}, {1, 1, 9, 3, 3, 1, 4}, {0, 1, 4, 4, 7, 1, 4},
            {0, 0, 6, 2, 9, 1, 6}};
        for (int m = 0; m < men.length; m++) {
            for (int what = 0; what <= 6; what++) {
                due.is("ofMan " + m + ", " + what, x.ofMan(m, what), men[m][what]);
            }
        }
        due.is("no such man", x.ofMan(5, 9), -1);
        due.is("no such man", x.ofMan(-1, 0), -1);
        due.is("no such what", x.ofMan(0, 7), -2);
        due.is("no such what", x.ofMan(0, -1), -2);
        ToothField y = Sown.sown("z15;l011a011l021a091l031");
        int[] blows = {1, 2, 1, 5, 1};
        for (int m = 0; m < 5; m++) {
            due.is("blow " + m, y.ofMan(m, 6), blows[m]);
        }
    }

    private void far() {
        ToothField x = Sown.sown(FIVE);
        due.is("far 0 0", x.far(0, 0), 0);
        due.is("far 0 1", x.far(0, 1), 1);
        due.is("far 0 2", x.far(0, 2), 3);
        due.is("far 0 3", x.far(0, 3), 3);
        due.is("far 0 4", x.far(0, 4), 5);
        due.is("far 4 0", x.far(4, 0), 5);
        due.is("far 2 3", x.far(2, 3), 2);
        due.is("far 3 4", x.far(3, 4), 2);
        due.is("no such man", x.far(0, 5), -1);
        due.is("no such man", x.far(5, 0), -1);
        due.is("no such man", x.far(-1, 0), -1);
    }

    private void law() {
        ToothField x = new ToothField();
        due.is("no such law", x.law(3), -2);
        due.is("no such law", x.law(-1), -2);
        due.is("no field", x.law(2), -3);
        due.is("unchanged", x.many(4), 0);
        Sown.read(x, FIVE);
        due.is("law 2", x.law(2), 0);
        due.is("no such law", x.law(3), -2);
        due.is("law 1", x.law(1), 2);
        due.is("the LAW", x.many(4), 1);
        due.is("law 1", x.law(1), 1);
    }

    private void stone() {
        ToothField x = Sown.sown(FIVE);
        due.is("no such man", x.stone(5, 30), -1);
        due.is("no such man", x.stone(-1, 0), -1);
        due.is("no such minute", x.stone(0, 30), -2);
        due.is("no such minute", x.stone(0, -1), -2);
        for (int s = 0; s < 6; s++) {
            due.is("stone " + s, x.stone(s % 5, s % 2 * 29), s);
        }
        due.is("full", x.stone(0, 0), -4);
        due.is("full, no such man", x.stone(5, 0), -1);
        due.is("full, no such minute", x.stone(0, 30), -2);
        due.is("how many", x.many(2), 6);
    }

    private void undo() {
        ToothField x = new ToothField();
        due.is("undo 0", x.undo(0), 0);
        due.is("undo 1", x.undo(1), -2);
        Sown.read(x, "z12;m055m134");
        x.stone(0, 0);
        due.is("left by one", x.left(), 1);
        x.stone(1, 0);
        x.stone(1, 3);
        due.is("undo -1", x.undo(-1), -2);
        due.is("undo 4", x.undo(4), -2);
        due.is("undo 2", x.undo(2), 1);
        due.is("the first stays", x.left(), 1);
        due.is("how many", x.many(2), 1);
        due.is("undo 0", x.undo(0), 1);
        due.is("undo 1", x.undo(1), 0);
        due.is("none", x.left(), 3);
        due.is("the number again", x.stone(0, 0), 0);
    }
}
