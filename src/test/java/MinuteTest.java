/** Promises 9 to 13: stands, foe, armour, left, falls, by fights worked out by hand. */
final class MinuteTest {
    private final Due due = new Due();

    private MinuteTest() {
    }

    public static void main(String[] args) {
        MinuteTest t = new MinuteTest();
        t.refusals();
        t.nobodyFights();
        t.strikesBack();
        t.bothFallAtOnce();
        t.archerOutOfReach();
        t.nearestAndLeast();
        t.laws();
        t.lawTwoWithinReach();
        t.stoneThatDoesNothing();
        t.turnsOnLeastInReach();
        t.turnsWhenFreed();
        t.turnsByReachNotByLaw();
        t.freedWhenFoeFalls();
        t.lastMinute();
        t.due.end();
    }

    private void refusals() {
        ToothField x = new ToothField();
        due.is("stands outside", x.stands(30), -2);
        due.is("stands outside", x.stands(-1), -2);
        due.is("stands without a field", x.stands(0), -3);
        due.is("left without a field", x.left(), -3);
        Sown.read(x, "z12;m055m134");
        due.is("stands outside", x.stands(30), -2);
        due.is("foe of none", x.foe(2, 30), -1);
        due.is("foe of none", x.foe(-1, 0), -1);
        due.is("foe outside", x.foe(0, 30), -2);
        due.is("foe outside", x.foe(0, -1), -2);
        due.is("armour of none", x.armour(2, 30), -1);
        due.is("armour outside", x.armour(1, 30), -2);
        due.is("armour outside", x.armour(1, -1), -2);
        due.is("falls of none", x.falls(2), -1);
        due.is("falls of none", x.falls(-1), -1);
    }

    private void nobodyFights() {
        ToothField x = Sown.sown("z12;..");
        due.is("empty stands", x.stands(29), 0);
        due.is("empty left", x.left(), 0);
        x = Sown.sown("z12;m055m134");
        due.is("quiet stands", x.stands(29), 3);
        due.is("quiet left", x.left(), 3);
        due.is("quiet foe", x.foe(0, 29), -9);
        due.is("quiet armour", x.armour(1, 29), 4);
        due.is("quiet falls", x.falls(0), -9);
    }

    /** 1 strikes 0 (5 - 3), 0 turns on 1; then both strike and both fall. */
    private void strikesBack() {
        ToothField x = Sown.sown("z12;m055m134");
        x.stone(1, 2);
        due.is("before", x.stands(1), 3);
        due.is("before", x.foe(1, 1), -9);
        due.is("then", x.stands(2), 3);
        due.is("then", x.foe(1, 2), 0);
        due.is("then", x.foe(0, 2), 1);
        due.is("then", x.armour(0, 2), 2);
        due.is("then", x.armour(1, 2), 4);
        due.is("behind", x.stands(3), 0);
        due.is("behind", x.foe(0, 3), -9);
        due.is("behind", x.foe(1, 3), -9);
        due.is("behind", x.armour(0, 3), -1);
        due.is("behind", x.armour(1, 29), -1);
        due.is("left", x.left(), 0);
        due.is("falls", x.falls(0), 3);
        due.is("falls", x.falls(1), 3);
    }

    private void bothFallAtOnce() {
        ToothField x = Sown.sown("z12;m055m053");
        x.stone(1, 0);
        x.stone(0, 0);
        due.is("both fall", x.left(), 0);
        due.is("falls", x.falls(0), 0);
        due.is("falls", x.falls(1), 0);
        due.is("armour 0 falls", x.armour(0, 0), 0);
    }

    /** The archer's blow is 5; his foe, two away, can't turn on him. */
    private void archerOutOfReach() {
        ToothField x = Sown.sown("z13;a184.m019");
        x.stone(0, 0);
        due.is("struck", x.armour(1, 0), 4);
        due.is("does not turn", x.foe(1, 0), -9);
        due.is("strikes on", x.foe(0, 0), 1);
        due.is("falls", x.falls(1), 1);
        due.is("armour", x.armour(0, 29), 4);
        ToothField y = Sown.sown("z25;a184....;...m019.");
        y.stone(0, 0);
        due.is("four away", y.foe(0, 0), -9);
        ToothField z = Sown.sown("z25;a184....;..m019..");
        z.stone(0, 0);
        due.is("three away", z.foe(0, 0), 1);
        ToothField w = Sown.sown("z13;m119.l019");
        w.stone(0, 0);
        w.stone(1, 0);
        due.is("a man, two away", w.foe(0, 0), -9);
        due.is("a lame one, two away", w.foe(1, 0), -9);
    }

    private void nearestAndLeast() {
        ToothField x = Sown.sown("z15;m019.a019m019m019");
        x.stone(1, 0);
        due.is("the nearest, not the least", x.foe(1, 0), 2);
        ToothField y = Sown.sown("z25;m019.a019.m019;..m119..");
        y.stone(1, 0);
        due.is("the nearest below", y.foe(1, 0), 3);
        ToothField z = Sown.sown("z15;m019.a019.m119");
        z.stone(1, 0);
        due.is("of several the least", z.foe(1, 0), 0);
    }

    /** Beside the archer two of his own dragon, two away one of the other. */
    private void laws() {
        ToothField x = Sown.sown("z14;m019a059m019m119");
        x.stone(1, 0);
        due.is("law 0", x.foe(1, 0), 0);
        x.law(1);
        due.is("law 1", x.foe(1, 0), 3);
        x.law(2);
        due.is("law 2", x.foe(1, 0), 3);
        x.law(0);
        due.is("law 0 again", x.foe(1, 0), 0);
    }

    /** One of the other dragon stands, but out of reach: law 2 takes any within it. */
    private void lawTwoWithinReach() {
        ToothField x = Sown.sown("z14;m055m055.m155");
        x.stone(0, 0);
        x.law(1);
        due.is("law 1: none", x.foe(0, 0), -9);
        due.is("law 1: none", x.left(), 7);
        x.law(2);
        due.is("law 2: any", x.foe(0, 0), -9);
        due.is("law 2: he fell", x.falls(1), 0);
        ToothField y = Sown.sown("z13;m055m051m159");
        y.stone(1, 0);
        y.law(2);
        due.is("law 2: the other dragon", y.foe(1, 0), 2);
    }

    private void stoneThatDoesNothing() {
        ToothField x = Sown.sown("z13;m019m019m019");
        x.stone(1, 0);
        due.is("turns on the least", x.foe(1, 0), 0);
        x.stone(2, 1);
        due.is("2 turns on 1", x.foe(2, 1), 1);
        x.stone(1, 1);
        due.is("1 keeps his foe", x.foe(1, 1), 0);
        due.is("struck by both", x.armour(1, 2), 5);
        ToothField y = Sown.sown("z13;m191m051m011");
        y.stone(0, 0);
        due.is("1 fell", y.stands(0), 5);
        y.stone(1, 1);
        due.is("the fallen does not turn", y.foe(1, 1), -9);
        due.is("nor strike", y.left(), 5);
        y.stone(0, 2);
        due.is("the fallen is no foe", y.foe(0, 2), -9);
    }

    /** 1 is struck by the archer 0, two away, and by 2 beside him: he can only turn on 2. */
    private void turnsOnLeastInReach() {
        ToothField x = Sown.sown("z14;a019.m019m017");
        x.stone(0, 0);
        x.stone(2, 0);
        due.is("armour", x.armour(1, 0), 6);
        due.is("turns on 2", x.foe(1, 0), 2);
        ToothField y = Sown.sown("z13;m019m019m017");
        y.stone(2, 0);
        y.stone(0, 0);
        due.is("turns on the least", y.foe(1, 0), 0);
    }

    /** 1 fights 0; 2 strikes 1 in the minute in which 0 falls: 1 turns on 2 at once. */
    private void turnsWhenFreed() {
        ToothField x = Sown.sown("z13;m012m019m119");
        x.stone(1, 0);
        due.is("0 stands", x.stands(0), 7);
        x.stone(2, 1);
        due.is("0 falls", x.falls(0), 1);
        due.is("1 turns on 2", x.foe(1, 1), 2);
        due.is("1 was struck by both", x.armour(1, 1), 7);
        ToothField y = Sown.sown("z13;m013m019m119");
        y.stone(1, 0);
        y.stone(2, 0);
        due.is("1 keeps 0", y.foe(1, 1), 0);
        due.is("1 struck earlier by 2", y.armour(1, 1), 6);
    }

    /** By law 1 nobody turns on his own dragon by a stone; struck, he does. */
    private void turnsByReachNotByLaw() {
        ToothField x = Sown.sown("z12;m019m019");
        x.stone(0, 0);
        due.is("struck by his own", x.foe(1, 0), 0);
        ToothField y = Sown.sown("z13;m019m119m119");
        y.law(1);
        y.stone(1, 0);
        y.stone(2, 0);
        due.is("1 turns on 0", y.foe(1, 0), 0);
        due.is("2 finds none", y.foe(2, 0), -9);
        due.is("0 turns on 1", y.foe(0, 0), 1);
    }

    /** Two strike one; as he falls both have no foe. */
    private void freedWhenFoeFalls() {
        ToothField x = Sown.sown("z13;m039m016m039");
        x.stone(0, 0);
        x.stone(2, 0);
        due.is("he falls", x.falls(1), 0);
        due.is("0 is free", x.foe(0, 0), -9);
        due.is("2 is free", x.foe(2, 0), -9);
        due.is("left", x.left(), 5);
    }

    private void lastMinute() {
        ToothField x = Sown.sown("z12;m019m011");
        x.stone(0, 29);
        due.is("before", x.stands(28), 3);
        due.is("falls in the last", x.falls(1), 29);
        due.is("left", x.left(), 1);
        ToothField y = Sown.sown("z12;m019m012");
        y.stone(0, 29);
        due.is("stands at noon", y.left(), 3);
        due.is("with a foe", y.foe(0, 29), 1);
        due.is("is left", y.falls(1), -9);
    }
}
