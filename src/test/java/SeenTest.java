/** Promises 20 to 27: reading, back, whence, laws, kinds, odds, coin, row. */
final class SeenTest {
    /** A stone on 0 fells 1 at once; one on 1 fells both a minute later. */
    private static final String PAIR = "z12;m055m134";

    private final Due due = new Due();

    private SeenTest() {
    }

    public static void main(String[] args) {
        SeenTest t = new SeenTest();
        t.reading();
        t.back();
        t.whence();
        t.laws();
        t.kinds();
        t.odds();
        t.coin();
        t.rowRefusals();
        t.row();
        t.due.end();
    }

    private void reading() {
        ToothField x = new ToothField();
        due.is("no man", x.reading(0, 30, true), -1);
        Sown.read(x, PAIR);
        due.is("no man", x.reading(2, 30, true), -1);
        due.is("no man", x.reading(-1, 0, true), -1);
        due.is("no minute", x.reading(0, 30, true), -2);
        due.is("no minute", x.reading(0, -1, false), -2);
        for (int r = 0; r < 8; r++) {
            due.is("reading " + r, x.reading(r % 2, r % 2 * 29, true), r);
        }
        due.is("full", x.reading(0, 0, true), -4);
        due.is("full, no man", x.reading(2, 0, true), -1);
        due.is("full, no minute", x.reading(0, 30, true), -2);
        due.is("how many", x.many(3), 8);
        due.is("all so", x.laws(), 7);
    }

    private void back() {
        ToothField x = new ToothField();
        due.is("back 0", x.back(0), 0);
        due.is("back 1", x.back(1), -2);
        Sown.read(x, PAIR);
        x.reading(0, 0, true);
        x.reading(1, 0, false);
        x.reading(1, 1, false);
        due.is("not so", x.laws(), 0);
        due.is("back -1", x.back(-1), -2);
        due.is("back 4", x.back(4), -2);
        due.is("back 2", x.back(2), 1);
        due.is("so", x.laws(), 7);
        due.is("how many", x.many(3), 1);
        due.is("back 0", x.back(0), 1);
        due.is("back 1", x.back(1), 0);
    }

    private void whence() {
        ToothField x = new ToothField();
        due.is("no minute", x.whence(30), -2);
        due.is("no minute", x.whence(-1), -2);
        due.is("no field", x.whence(0), -3);
        Sown.read(x, "z12;..");
        due.is("no men", x.whence(0), 0);
        Sown.read(x, PAIR);
        due.is("no readings", x.whence(29), 3);
        x.reading(1, 0, false);
        due.is("by 0", x.whence(0), 1);
        due.is("too late", x.whence(1), 0);
        x.back(1);
        x.reading(1, 1, false);
        due.is("by each", x.whence(0), 3);
        due.is("in 1, by 0", x.whence(1), 1);
        x.reading(0, 1, false);
        due.is("by 1", x.whence(0), 2);
        x.back(2);
        x.reading(1, 2, true);
        x.reading(1, 3, false);
        due.is("in 2, by 1", x.whence(2), 2);
        due.is("in 3, by 0", x.whence(3), 1);
        for (int s = 0; s < 6; s++) {
            x.stone(0, 20);
        }
        due.is("a seventh", x.whence(3), 1);
        due.is("six alone", x.laws(), 0);
    }

    private void laws() {
        ToothField x = new ToothField();
        due.is("no field", x.laws(), -3);
        Sown.read(x, "z12;..");
        due.is("no men", x.laws(), 7);
        Sown.read(x, "z13;m035m034m155");
        x.stone(1, 0);
        due.is("no readings", x.laws(), 7);
        x.law(1);
        x.reading(1, 0, true);
        x.reading(0, 5, false);
        due.is("0 falls by law 0", x.laws(), 1);
        x.back(1);
        x.reading(2, 5, true);
        due.is("2 stands by law 0", x.laws(), 1);
        x.back(1);
        x.reading(1, 1, false);
        due.is("1 falls by 2", x.laws(), 6);
        due.is("the LAW stays", x.many(4), 1);
        Sown.read(x, "z12;m055m034");
        x.stone(0, 0);
        x.reading(1, 0, false);
        due.is("his own by 0 and 2", x.laws(), 5);
        x.reading(1, 5, true);
        due.is("by none", x.laws(), 0);
        Sown.read(x, "z12;m055m034");
        x.stone(0, 29);
        x.reading(1, 29, false);
        due.is("in the last minute", x.laws(), 5);
        due.is("in the last minute", x.kinds(0), 1);
        x.undo(1);
        due.is("in the last minute", x.whence(29), 1);
    }

    private void kinds() {
        ToothField x = new ToothField();
        due.is("no man", x.kinds(0), -1);
        Sown.read(x, PAIR);
        due.is("no man", x.kinds(2), -1);
        due.is("no man", x.kinds(-1), -1);
        due.is("no readings", x.kinds(0), 7);
        x.stone(0, 0);
        x.reading(1, 0, false);
        due.is("by a blow of 5", x.kinds(0), 1);
        due.is("his own does nothing", x.kinds(1), 7);
        due.is("his kind stays", x.ofMan(0, 0), 0);
        due.is("left stays", x.left(), 1);
        Sown.read(x, "z13;m055.l134");
        x.stone(0, 0);
        x.reading(1, 0, true);
        x.reading(1, 1, false);
        due.is("by a reach of 3", x.kinds(0), 4);
        due.is("his own does nothing", x.kinds(1), 0);
        due.is("his kind stays", x.ofMan(1, 0), 1);
    }

    private void oddsAre(ToothField x, int m, long upper, long lower) {
        due.is("upper of " + m, x.odds(m, 0), upper);
        due.is("lower of " + m, x.odds(m, 1), lower);
    }

    private void odds() {
        ToothField x = new ToothField();
        due.is("no man", x.odds(0, 0), Long.MIN_VALUE);
        Sown.read(x, PAIR);
        due.is("no man", x.odds(2, 0), Long.MIN_VALUE);
        due.is("no man", x.odds(-1, 0), Long.MIN_VALUE);
        due.is("no such which", x.odds(0, 2), Long.MIN_VALUE);
        due.is("no such which", x.odds(0, -1), Long.MIN_VALUE);
        oddsAre(x, 0, 1, 1);
        x.stone(0, 0);
        oddsAre(x, 0, 1, 1);
        oddsAre(x, 1, 1, 2);
        x.stone(1, 0);
        oddsAre(x, 0, 3, 4);
        oddsAre(x, 1, 1, 4);
        x.reading(1, 0, true);
        oddsAre(x, 1, 1, 4);
        x.stone(0, 7);
        x.stone(0, 8);
        x.stone(0, 9);
        x.stone(0, 10);
        oddsAre(x, 0, 3, 4);
        oddsAre(x, 1, 1, 64);
        due.is("stones stay", x.many(2), 6);
        x.undo(6);
        x.stone(0, 29);
        oddsAre(x, 1, 1, 2);
    }

    private void coin() {
        ToothField x = new ToothField();
        due.is("no dragon", x.coin(2), -2);
        due.is("no dragon", x.coin(-1), -2);
        due.is("no field", x.coin(0), -3);
        Sown.read(x, "z22;m055m134;l041.");
        due.is("of 0", x.coin(0), 9);
        due.is("of 1", x.coin(1), 3);
        x.stone(0, 0);
        due.is("1 fell", x.coin(1), 0);
        due.is("of 0 still", x.coin(0), 9);
        x.stone(2, 1);
        due.is("0 turned on 2", x.coin(0), 5);
    }

    private void rowRefusals() {
        ToothField x = new ToothField();
        due.is("no sheet", x.row(4, 3, -1, -1), -1);
        due.is("no sheet", x.row(-1, 0, 0, 0), -1);
        due.is("no lane", x.row(0, 3, -1, -1), -2);
        due.is("no lane", x.row(0, -1, 0, 0), -2);
        due.is("nothing", x.row(0, 0, -1, -1), -11);
        due.is("NULL", x.fault(), 1);
        x.sheet(0, 1, 40);
        due.is("another lane", x.row(0, 0, -1, -1), -12);
        due.is("CAST", x.fault(), 2);
        due.is("below 0", x.row(0, 1, -1, -1), -14);
        due.is("SIZE", x.fault(), 4);
        due.is("beyond", x.row(0, 1, 0, 41), -13);
        due.is("INDEX", x.fault(), 3);
        due.is("beyond", x.row(0, 1, 41, 0), -13);
        due.is("beyond", x.row(0, 1, -1, 0), -13);
        due.is("beyond", x.row(0, 1, 40, Integer.MAX_VALUE), -13);
        due.is("no field", x.row(0, 1, 0, 31), -3);
        due.is("refused", x.fault(), 0);
        due.is("no field", x.row(0, 1, 40, 0), -3);
        Sown.read(x, PAIR);
        x.put(0, 30, 2);
        due.is("above 30", x.row(0, 1, 0, 31), -2);
        due.is("no man", x.row(0, 1, 1, 30), -1);
        x.put(0, 30, -1);
        due.is("no man", x.row(0, 1, 30, 1), -1);
        due.is("refused", x.fault(), 0);
        due.is("thirty", x.row(0, 1, 0, 30), 1);
    }

    private void row() {
        ToothField x = Sown.sown(PAIR);
        x.sheet(0, 0, 5);
        due.is("none", x.row(0, 0, 5, 0), 3);
        due.is("0 in 0", x.row(0, 0, 0, 1), 1);
        x.put(0, 1, 1);
        due.is("1 in 0", x.row(0, 0, 1, 1), 0);
        due.is("1 in 0, 0 in 1", x.row(0, 0, 1, 2), 0);
        x.stone(0, 0);
        due.is("in place of all stones", x.row(0, 0, 5, 0), 3);
        due.is("stones stay", x.many(2), 1);
        due.is("left stays", x.left(), 1);
        Sown.read(x, "z14;m011m111.m011");
        x.sheet(0, 0, 3);
        x.put(0, 0, 2);
        x.put(0, 1, 2);
        x.put(0, 2, 0);
        due.is("0 in 2", x.row(0, 0, 0, 3), 5);
        x.sheet(0, 0, 30);
        due.is("by the law", x.row(0, 0, 0, 30), 5);
        Sown.read(x, "z12;m011m011");
        x.law(1);
        due.is("by the law", x.row(0, 0, 0, 30), 3);
        Sown.read(x, "z13;m011.l021");
        due.is("out of reach", x.row(0, 0, 0, 30), 3);
        Sown.read(x, "z13;m011m011a111");
        for (int i = 0; i < 30; i++) {
            x.put(0, i, i == 29 ? 0 : 3);
        }
        due.is("no man", x.row(0, 0, 0, 30), -1);
        Sown.read(x, "z25;m011m011..m011;.....");
        for (int i = 0; i < 30; i++) {
            x.put(0, i, i == 29 ? 0 : 2);
        }
        due.is("before the last minute", x.row(0, 0, 0, 29), 7);
        due.is("in the last minute", x.row(0, 0, 0, 30), 5);
    }
}
