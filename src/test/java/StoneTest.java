/** Promises 14 to 19: cast, save, cull, sow, worth, game. */
final class StoneTest {
    /** A stone on 0 fells 1 at once; one on 1 fells both; on both at once fells 1. */
    private static final String PAIR = "z12;m055m134";

    private final Due due = new Due();

    private StoneTest() {
    }

    public static void main(String[] args) {
        StoneTest t = new StoneTest();
        t.castAndSave();
        t.castRefusals();
        t.cull();
        t.cullPrefersFewer();
        t.sow();
        t.sowOfADragon();
        t.sowNinth();
        t.worth();
        t.worthOfAGuard();
        t.game();
        t.gameOfThree();
        t.gameThatIsAnswered();
        t.gameTillNoon();
        t.nothingChanges();
        t.due.end();
    }

    private void castAndSave() {
        ToothField x = Sown.sown(PAIR);
        due.is("fewest", x.cast(0, 0), 1);
        due.is("most", x.cast(0, 1), 0);
        due.is("save 0", x.save(0, 0), 1);
        due.is("save 1", x.save(1, 0), 0);
        due.is("fewest, last", x.cast(29, 0), 0);
        due.is("most, last", x.cast(29, 1), 1);
        due.is("save 0, last", x.save(0, 29), 3);
        due.is("save 1, last", x.save(1, 29), 2);
        for (int s = 0; s < 6; s++) {
            x.stone(0, 20);
        }
        due.is("a seventh: fewest", x.cast(0, 0), 1);
        due.is("a seventh: most", x.cast(0, 1), 0);
        due.is("a seventh: save 0", x.save(0, 0), 1);
        due.is("a seventh too late", x.save(0, 21), 3);
        due.is("still six", x.many(2), 6);
        ToothField y = Sown.sown("z13;m055.m155");
        due.is("of several the least", y.cast(0, 0), 0);
        due.is("of several the least", y.cast(0, 1), 0);
        ToothField z = Sown.sown("z12;..");
        due.is("no men", z.cast(0, 0), -9);
        due.is("no men", z.cast(0, 1), -9);
    }

    private void castRefusals() {
        ToothField x = new ToothField();
        due.is("no such minute", x.cast(30, 0), -2);
        due.is("no such minute", x.cast(-1, 0), -2);
        due.is("no such what", x.cast(0, 2), -2);
        due.is("no such what", x.cast(0, -1), -2);
        due.is("no field", x.cast(29, 1), -3);
        due.is("no man", x.save(0, 30), -1);
        Sown.read(x, PAIR);
        due.is("no man", x.save(2, 30), -1);
        due.is("no man", x.save(-1, 0), -1);
        due.is("no minute", x.save(0, 30), -2);
        due.is("no minute", x.save(0, -1), -2);
    }

    private void cull() {
        ToothField x = new ToothField();
        due.is("outside", x.cull(-1), -2);
        due.is("outside", x.cull(9), -2);
        due.is("no field", x.cull(0), -3);
        due.is("no field", x.cull(8), -3);
        Sown.read(x, "z12;..");
        due.is("no men", x.cull(0), 0);
        Sown.read(x, PAIR);
        due.is("to none", x.cull(0), 2);
        due.is("to one", x.cull(1), 1);
        due.is("to two", x.cull(2), 0);
        due.is("to eight", x.cull(8), 0);
        for (int s = 0; s < 6; s++) {
            x.stone(0, 20);
        }
        due.is("above six, to none", x.cull(0), 2);
        due.is("above six, to one", x.cull(1), 0);
        Sown.read(x, PAIR);
        x.stone(0, 29);
        due.is("one falls in the last minute", x.cull(1), 0);
        Sown.read(x, "z12;m055m055");
        x.stone(0, 0);
        due.is("in minute 0, before he falls", x.cull(0), 2);
        ToothField y = Sown.sown("z12;m011.");
        due.is("not by all", y.cull(0), -9);
        ToothField z = Sown.sown("z25;m011m011.m011m011;.....");
        due.is("one of a pair", z.cull(3), 1);
        due.is("both of a pair", z.cull(2), 3);
        due.is("both of one, one of the other", z.cull(1), 7);
        due.is("both of each pair", z.cull(0), 15);
    }

    /** By 0 and 1 (3), who fell one another, as by 2 alone (4) one is left. */
    private void cullPrefersFewer() {
        ToothField x = Sown.sown("z13;m019m019m151");
        due.is("fewer, not less", x.cull(1), 4);
        due.is("the least of one each", x.cull(2), 1);
    }

    private void sow() {
        ToothField x = new ToothField();
        due.is("no such dragon", x.sow(2), -2);
        due.is("no such dragon", x.sow(-1), -2);
        due.is("no field", x.sow(1), -3);
        Sown.read(x, PAIR);
        due.is("no cell", x.sow(0), -9);
        Sown.read(x, "z12;..");
        due.is("the least cell", x.sow(0), 0);
        Sown.read(x, "z22;m035.;..");
        due.is("no stones", x.sow(0), 1);
        x.stone(0, 0);
        due.is("of several the least", x.sow(0), 1);
        Sown.read(x, "z13;m055.m059");
        x.stone(0, 0);
        due.is("the sown one does not count", x.sow(0), 1);
    }

    /** He who is sown beside 0 fells him, and falls too; by law 1 only if he is of the other dragon. */
    private void sowOfADragon() {
        ToothField x = Sown.sown("z13;..m035");
        due.is("none turns", x.sow(1), 0);
        x.stone(0, 0);
        due.is("beside", x.sow(0), 1);
        x.law(1);
        due.is("his own", x.sow(0), 0);
        due.is("the other's", x.sow(1), 1);
        ToothField y = Sown.sown("z13;..m059");
        y.stone(0, 0);
        due.is("strength 5, armour 5", y.sow(0), 0);
        ToothField z = Sown.sown("z13;..m049");
        z.stone(0, 0);
        due.is("struck once, then falls", z.sow(0), 0);
        ToothField w = Sown.sown("z13;..m045");
        w.stone(0, 0);
        due.is("he strikes back once", w.sow(0), 1);
        ToothField v = Sown.sown("z13;..m046");
        v.stone(0, 0);
        due.is("once with 5", v.sow(0), 0);
        ToothField u = Sown.sown("z13;..m035");
        u.stone(0, 28);
        due.is("in the last minute", u.sow(0), 1);
    }

    /** By law 1 only 7 turns on the ninth, sown beside him in cell 9; by law 0 he turns on a lesser number. */
    private void sowNinth() {
        ToothField x = Sown.sown("z25;m019m019m019m019m019;.m019m019m035.");
        due.is("none turns", x.sow(1), 5);
        x.stone(7, 0);
        due.is("behind all others", x.sow(1), 5);
        x.law(1);
        due.is("his own", x.sow(0), 5);
        due.is("the ninth fells 7", x.sow(1), 9);
        due.is("eight still", x.many(1), 8);
        due.is("nothing is there", x.sign(9), -9);
        due.is("all are left", x.left(), 255);
    }

    private void worth() {
        ToothField x = Sown.sown(PAIR);
        due.is("no man", x.worth(2), -1);
        due.is("no man", x.worth(-1), -1);
        due.is("quiet", x.worth(0), 100);
        due.is("quiet", x.worth(1), 100);
        x.stone(1, 0);
        due.is("0 fells 1", x.worth(0), 101);
        due.is("1 fells 0", x.worth(1), 101);
        x.undo(1);
        x.stone(0, 0);
        due.is("his stone does nothing", x.worth(0), 101);
        due.is("he harms none", x.worth(1), 100);
        Sown.read(x, "z13;m055m134m011");
        x.stone(0, 29);
        due.is("in the last minute", x.worth(2), 100);
        due.is("in the last minute", x.worth(0), 101);
    }

    /** 1 holds up the archer and fells him; without 1 the archer fells 2, then 3. */
    private void worthOfAGuard() {
        ToothField x = Sown.sown("z14;a011m099m011m011");
        x.stone(0, 0);
        x.stone(0, 1);
        due.is("left", x.left(), 14);
        due.is("the guard", x.worth(1), 99);
        due.is("the archer", x.worth(0), 100);
        due.is("the guarded", x.worth(2), 100);
    }

    private void game() {
        ToothField x = new ToothField();
        due.is("no such what", x.game(2), -2);
        due.is("no such what", x.game(-1), -2);
        due.is("no field", x.game(0), -3);
        due.is("no field", x.game(1), -3);
        Sown.read(x, "z12;..");
        due.is("no men", x.game(0), -9);
        due.is("no men", x.game(1), -9);
        Sown.read(x, PAIR);
        due.is("none is left", x.game(0), 0);
        due.is("by 1", x.game(1), 1);
        Sown.read(x, "z13;m055.m155");
        due.is("out of reach", x.game(0), 2);
        due.is("the least", x.game(1), 0);
    }

    /** After 0 the other one can spare 2, after 1 only 2 is left, after 2 the other one spares both. */
    private void gameOfThree() {
        ToothField x = Sown.sown("z13;a092m011m011");
        due.is("one is left", x.game(0), 1);
        due.is("by 1", x.game(1), 1);
        for (int s = 0; s < 6; s++) {
            x.stone(1, 29);
        }
        due.is("behind six", x.game(1), 1);
    }

    /**
     * From minute 6 on the archer 1 fells all of the other dragon, one a minute; a stone on 0, who is of his own, fells
     * him just before. The first one's best is to fell one more ahead of that.
     */
    private void gameThatIsAnswered() {
        ToothField x = Sown.sown("z15;m191a111m011m011m011");
        x.law(2);
        x.stone(1, 6);
        x.stone(1, 7);
        x.stone(1, 8);
        due.is("left, if none throws", x.left(), 3);
        due.is("three are left", x.game(0), 3);
        due.is("by 1", x.game(1), 1);
    }

    private void gameTillNoon() {
        ToothField x = Sown.sown("z15;m055.m155m155.");
        x.stone(1, 29);
        due.is("two are left", x.game(0), 2);
        due.is("by each", x.game(1), 0);
    }

    private void nothingChanges() {
        ToothField x = Sown.sown("z13;a092m011.");
        x.stone(0, 3);
        x.cast(0, 0);
        x.save(0, 0);
        x.cull(0);
        x.sow(1);
        x.worth(0);
        x.game(0);
        due.is("men", x.many(1), 2);
        due.is("stones", x.many(2), 1);
        due.is("cell", x.sign(2), -9);
        due.is("falls", x.falls(1), 3);
        due.is("left", x.left(), 1);
    }
}
