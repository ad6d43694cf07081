/** The edges of "2 minutes": its terms, and promises 9 to 13; all fights are worked out by hand. */
final class MinuteEdges {
    /** A STONE on 0 fells 1 at once; one on 1 fells both a MINUTE later. */
    private static final String PAIR = "z12;m055m134";

    private final Said said;

    MinuteEdges(Said said) {
        this.said = said;
    }

    void all() {
        minutes();
        sixStones();
        severalOnOne();
        atFirst();
        onlyInItsMinute();
        ifHeStands();
        ifHeHasNoFoe();
        ofTheOthers();
        ofTheOthersWhoStand();
        noFurtherThanReach();
        lawAny();
        lawOtherAlone();
        lawOtherElseAny();
        nearest();
        ofSeveralTheLeast();
        strikeAtOnce();
        armourThatIsGone();
        manyStrikeOne();
        foeThatFell();
        turnsOnWhoStands();
        turnsWithinReach();
        turnsOnTheLeast();
        turnsWhenHeHasNoFoe();
        turnsByNoLaw();
        fallenDoNotTurn();
        left();
        falls();
        standsOfAMinute();
        foeOfAMan();
        armourOfAMan();
        leftWithoutAField();
        fallsOfAMan();
    }

    private void minutes() {
        said.terms("2 MINUTES 0 .. 29 (behind it is NOON).");
        said.due(Sown.sown(PAIR, "stone 0 0"), "stands 0 = 1", "stands 29 = 1", "left = 1");
        said.due(Sown.sown(PAIR, "stone 0 29"), "stands 0 = 3", "stands 28 = 3", "stands 29 = 1", "left = 1");
        said.due(Sown.sown(PAIR), "stone 0 30 = OUTSIDE", "stone 0 -1 = OUTSIDE", "stands 30 = OUTSIDE",
            "stands -1 = OUTSIDE", "foe 0 30 = OUTSIDE", "armour 0 30 = OUTSIDE", "reading 0 30 true = OUTSIDE",
            "whence 30 = OUTSIDE", "save 0 30 = OUTSIDE", "cast 30 0 = OUTSIDE");
    }

    private void sixStones() {
        said.terms("STONES, 6 at most, numbered by how many there are: on a MAN in a MINUTE.");
        said.due(Sown.sown(PAIR), "stone 1 29 = 0", "stone 1 28 = 1", "stone 0 29 = 2", "undo 2 = 1", "stone 1 27 = 1",
            "stone 1 29 = 2", "stone 1 29 = 3", "stone 1 29 = 4", "stone 0 0 = 5", "stone 0 0 = FULL", "many 2 = 6",
            "left = 1");
    }

    /** A second STONE on the same MAN in the same MINUTE is one of the six, and finds him with a FOE. */
    private void severalOnOne() {
        said.terms("on a MAN in a MINUTE.");
        said.due(Sown.sown("z12;m015m015", "stone 0 3", "stone 0 3"), "many 2 = 2", "armour 1 3 = 4", "armour 1 4 = 3");
    }

    private void atFirst() {
        said.terms("At first nobody has a FOE, ARMOUR is as told.");
        said.due(Sown.sown("z13;m011m119a055"), "foe 0 0 = NONE", "foe 1 29 = NONE", "foe 2 0 = NONE", "armour 0 0 = 1",
            "armour 1 29 = 9", "armour 2 0 = 5", "left = 7");
        said.due(Sown.sown(PAIR, "stone 1 1"), "foe 0 0 = NONE", "foe 1 0 = NONE", "armour 0 0 = 5", "armour 1 0 = 4");
    }

    private void onlyInItsMinute() {
        said.terms("In each MINUTE, in order: each MAN on whom a STONE comes in it (by numbers of STONES),");
        said.due(Sown.sown(PAIR, "stone 0 7"), "stands 6 = 3", "stands 7 = 1", "falls 1 = 7");
        said.due(Sown.sown("z15;m011m011.m011m011", "stone 3 4", "stone 0 4"), "stands 3 = 15", "stands 4 = 9",
            "falls 1 = 4", "falls 2 = 4");
        said.due(Sown.sown("z15;m011m011.m011m011", "stone 3 5", "stone 0 4"), "stands 4 = 13", "stands 5 = 9");
    }

    /** 1 fell in MINUTE 0: his STONE does nothing. */
    private void ifHeStands() {
        said.terms("if he stands and has no FOE:");
        said.due(Sown.sown("z13;m191m051m019", "stone 0 0", "stone 1 1"), "falls 1 = 0", "foe 1 1 = NONE",
            "armour 0 29 = 1", "armour 2 29 = 9", "left = 5");
    }

    /** Struck by 2, he turned on 2; a STONE would set him on 0. */
    private void ifHeHasNoFoe() {
        said.terms("if he stands and has no FOE:");
        said.due(Sown.sown("z13;m019m019m019", "stone 2 0", "stone 1 1"), "foe 1 0 = 2", "foe 1 1 = 2",
            "armour 0 1 = 9");
        said.due(Sown.sown("z13;m019m019m019", "stone 1 1"), "foe 1 1 = 0");
    }

    private void ofTheOthers() {
        said.terms("his FOE is, of the others who stand,");
        said.due(Sown.sown("z12;.m055", "stone 0 0"), "foe 0 0 = NONE", "armour 0 29 = 5", "left = 1");
    }

    /** 1, who fell, would be the nearest of both. */
    private void ofTheOthersWhoStand() {
        said.terms("of the others who stand,");
        said.due(Sown.sown("z13;m099m011m099", "stone 0 0", "stone 2 1", "stone 0 2"), "falls 1 = 0", "foe 2 1 = NONE",
            "foe 0 2 = NONE", "left = 5");
        said.due(Sown.sown("z13;a099m011m099", "stone 0 0", "stone 0 1"), "falls 1 = 0", "foe 0 1 = 2");
    }

    private void noFurtherThanReach() {
        said.terms("no further than his REACH,");
        said.due(Sown.sown("z22;m019.;.m019", "stone 0 0"), "far 0 1 = 2", "foe 0 0 = NONE");
        said.due(Sown.sown("z22;m019m019;..", "stone 0 0"), "foe 0 0 = 1");
        said.due(Sown.sown("z22;l019.;.m019", "stone 0 0"), "foe 0 0 = NONE");
        said.due(Sown.sown("z23;a019..;..m019", "stone 0 0"), "far 0 1 = 3", "foe 0 0 = 1");
        said.due(Sown.sown("z24;a019...;...m019", "stone 0 0"), "far 0 1 = 4", "foe 0 0 = NONE");
    }

    private void lawAny() {
        said.terms("by the LAW (0: any;");
        said.due(Sown.sown("z13;m019m019m119", "stone 1 0"), "foe 1 0 = 0");
        said.due(Sown.sown("z13;m119m019m019", "stone 1 0"), "foe 1 0 = 0");
    }

    private void lawOtherAlone() {
        said.terms("1: of the other DRAGON alone;");
        said.due(Sown.sown("z13;m019m019m119", "law 1", "stone 1 0"), "foe 1 0 = 2");
        said.due(Sown.sown("z13;m119m019m019", "law 1", "stone 1 0"), "foe 1 0 = 0");
        said.due(Sown.sown("z13;m019m019m019", "law 1", "stone 1 0"), "foe 1 0 = NONE", "left = 7");
        said.due(Sown.sown("z14;m119m119.m019", "law 1", "stone 1 0"), "foe 1 0 = NONE");
    }

    /** One of the other DRAGON out of reach, or fallen, is none. */
    private void lawOtherElseAny() {
        said.terms("2: of the other DRAGON, if there is one, else any),");
        said.due(Sown.sown("z13;m019m019m119", "law 2", "stone 1 0"), "foe 1 0 = 2");
        said.due(Sown.sown("z13;m019m019m019", "law 2", "stone 1 0"), "foe 1 0 = 0");
        said.due(Sown.sown("z14;m019m019.m119", "law 2", "stone 1 0"), "foe 1 0 = 0");
        said.due(Sown.sown("z13;m019m089m111", "law 2", "stone 1 0", "stone 1 1"), "falls 2 = 0", "foe 1 1 = 0");
        said.due(Sown.sown("z14;m019a019.m119", "law 2", "stone 1 0"), "foe 1 0 = 2");
    }

    private void nearest() {
        said.terms("the nearest:");
        said.due(Sown.sown("z15;m019.a019m019.", "stone 1 0"), "foe 1 0 = 2");
        said.due(Sown.sown("z25;m019..a019.;...m019.", "stone 1 0"), "foe 1 0 = 2");
        said.due(Sown.sown("z15;m119m019.a019.", "law 1", "stone 2 0"), "foe 2 0 = 0");
    }

    private void ofSeveralTheLeast() {
        said.terms("of several the least (none: he has none).");
        said.due(Sown.sown("z33;.m019.;m019m019m019;.m019.", "stone 2 0"), "foe 2 0 = 0");
        said.due(Sown.sown("z33;...;m019m019m019;.m019.", "stone 1 0"), "foe 1 0 = 0");
        said.due(Sown.sown("z33;...;.m019m019;.m019.", "stone 0 0"), "foe 0 0 = 1");
        said.due(Sown.sown("z33;...;.m019.;...", "stone 0 0"), "foe 0 0 = NONE");
    }

    /** Each would fell the other first. */
    private void strikeAtOnce() {
        said.terms("Then all who have a FOE strike at once:");
        said.due(Sown.sown("z12;m099m099", "stone 0 5", "stone 1 5"), "stands 4 = 3", "stands 5 = 0", "falls 0 = 5",
            "falls 1 = 5");
        said.due(Sown.sown("z12;m099m099", "stone 1 5"), "falls 0 = 5", "falls 1 = NONE");
    }

    private void armourThatIsGone() {
        said.terms("the FOE's ARMOUR is less by the BLOW; those whose ARMOUR is 0 or less fall.");
        said.due(Sown.sown("z12;m049m015", "stone 0 0"), "armour 1 0 = 1", "stands 0 = 3");
        said.due(Sown.sown("z12;m059m015", "stone 0 0"), "armour 1 0 = 0", "stands 0 = 1");
        said.due(Sown.sown("z12;m069m015", "stone 0 0"), "armour 1 0 = -1", "stands 0 = 1");
        said.due(Sown.sown("z12;m099m011", "stone 0 0"), "armour 1 0 = -8", "falls 1 = 0");
        said.due(Sown.sown("z12;l011m019", "stone 0 0"), "armour 1 0 = 8");
        said.due(Sown.sown("z12;a019m019", "stone 0 0"), "armour 1 0 = 7");
    }

    private void manyStrikeOne() {
        said.terms("all who have a FOE strike at once");
        said.due(Sown.sown("z33;.m039.;m039m019m039;.m039.", "stone 0 0", "stone 1 0", "stone 3 0", "stone 4 0"),
            "armour 2 0 = -3", "falls 2 = 0", "left = 27");
        said.due(Sown.sown("z33;.m029.;m029m019m029;.m029.", "stone 0 0", "stone 1 0", "stone 3 0", "stone 4 0"),
            "armour 2 0 = 1", "foe 2 0 = 0", "falls 2 = 1");
    }

    private void foeThatFell() {
        said.terms("Who has a FOE that fell has none any more.");
        said.due(Sown.sown("z13;m039m016m039", "stone 0 0", "stone 2 0"), "falls 1 = 0", "foe 0 0 = NONE",
            "foe 2 0 = NONE", "foe 0 29 = NONE");
        said.due(Sown.sown("z13;m039m011m039", "stone 0 0", "stone 0 1"), "foe 0 0 = NONE", "foe 0 1 = NONE");
    }

    /** By law 1 the archer 2 fells 0 as he strikes 1: 1 has none to turn on. */
    private void turnsOnWhoStands() {
        said.terms("Then each who stands, has no FOE, and was struck in this MINUTE by some who stand");
        said.due(Sown.sown("z13;m012m119a199", "law 1", "stone 0 0", "stone 2 0"), "armour 1 0 = 8", "falls 0 = 0",
            "foe 1 0 = NONE", "left = 6");
        said.due(Sown.sown("z13;m012m119a199", "law 1", "stone 0 0"), "armour 1 0 = 8", "foe 1 0 = 0");
    }

    private void turnsWithinReach() {
        said.terms("and are no further than his REACH:");
        said.due(Sown.sown("z13;a019.m019", "stone 0 0"), "armour 1 0 = 7", "foe 1 0 = NONE", "falls 1 = 4",
            "armour 0 29 = 9");
        said.due(Sown.sown("z13;a019.l019", "stone 0 0"), "foe 1 0 = NONE");
        said.due(Sown.sown("z14;a019..a019", "stone 0 0"), "foe 1 0 = 0");
        said.due(Sown.sown("z12;a019m019", "stone 0 0"), "foe 1 0 = 0");
        said.due(Sown.sown("z15;a019..m019m019", "stone 0 0", "stone 2 0"), "armour 1 0 = 6", "foe 1 0 = 2");
    }

    /** The least, not the nearest; nor he who struck first. */
    private void turnsOnTheLeast() {
        said.terms("the least of these is his FOE.");
        said.due(Sown.sown("z15;a019..a019m019", "stone 0 0", "stone 2 0"), "armour 1 0 = 6", "foe 1 0 = 0");
        said.due(Sown.sown("z13;m019m019m019", "stone 2 0", "stone 0 0"), "foe 1 0 = 0");
        said.due(Sown.sown("z13;m019m019m019", "stone 2 0", "stone 0 1"), "foe 1 0 = 2", "foe 1 1 = 2");
    }

    /** 1 fights 0 till he falls, and turns on 2, who strikes him, in that same MINUTE. */
    private void turnsWhenHeHasNoFoe() {
        said.terms("has no FOE, and was struck in this MINUTE");
        said.due(Sown.sown("z13;m012m019m119", "stone 1 0", "stone 2 0"), "foe 1 0 = 0", "falls 0 = 1", "foe 1 1 = 2",
            "armour 1 1 = 6", "armour 2 1 = 9", "armour 2 2 = 8");
        said.due(Sown.sown("z13;m012m019m119", "stone 1 0"), "falls 0 = 1", "foe 1 1 = NONE", "armour 1 1 = 8",
            "left = 6");
    }

    private void turnsByNoLaw() {
        said.terms("was struck in this MINUTE by some who stand and are no further than his REACH");
        said.due(Sown.sown("z13;m119m019m019", "law 2", "stone 2 0"), "foe 2 0 = 1", "foe 1 0 = 2");
        said.due(Sown.sown("z12;m019m019", "law 1", "stone 0 0"), "foe 0 0 = NONE", "foe 1 0 = NONE");
    }

    private void fallenDoNotTurn() {
        said.terms("each who stands,");
        said.due(Sown.sown("z13;m019m031m019", "stone 0 0", "stone 1 2"), "falls 1 = 0", "foe 1 0 = NONE",
            "foe 1 2 = NONE", "armour 0 29 = 9", "armour 2 29 = 9");
    }

    /** A fight that NOON ends. */
    private void left() {
        said.terms("LEFT: who stands at NOON.");
        said.due(Sown.sown("z12;m019m019", "stone 0 21"), "left = 1", "armour 0 29 = 1", "armour 1 29 = 0");
        said.due(Sown.sown("z12;m019m019", "stone 0 22"), "left = 3", "armour 0 29 = 2", "armour 1 29 = 1");
        said.due(Sown.sown("z12;m055m051", "stone 0 29"), "left = 1");
        said.due(Sown.sown("z12;.."), "left = 0");
    }

    private void falls() {
        said.terms("FALLS: the MINUTE in which one fell.");
        said.due(Sown.sown("z12;m055m051", "stone 0 0"), "falls 1 = 0", "falls 0 = NONE");
        said.due(Sown.sown("z12;m055m051", "stone 0 29"), "falls 1 = 29", "falls 0 = NONE");
        said.due(Sown.sown("z12;m019m017", "stone 0 3"), "falls 1 = 9", "falls 0 = NONE");
    }

    private void standsOfAMinute() {
        said.promise(9, "Who stands as a MINUTE ends, as a set. OUTSIDE; STATE: there is no FIELD.");
        said.due(Sown.sown(PAIR, "stone 1 2"), "stands 0 = 3", "stands 2 = 3", "stands 3 = 0", "stands 29 = 0",
            "stands 30 = OUTSIDE", "stands -1 = OUTSIDE", "stands MIN = OUTSIDE", "stands MAX = OUTSIDE");
        said.due(Sown.sown("z12;.."), "stands 0 = 0", "stands 29 = 0", "stands 30 = OUTSIDE");
        said.due(new ToothField(), "stands 0 = STATE", "stands 29 = STATE", "stands 30 = OUTSIDE",
            "stands -1 = OUTSIDE");
    }

    private void foeOfAMan() {
        said.promise(10, "The FOE of a MAN as a MINUTE ends; NONE: none, he fell. UNKNOWN; OUTSIDE.");
        said.due(Sown.sown(PAIR, "stone 1 2"), "foe 1 1 = NONE", "foe 1 2 = 0", "foe 0 2 = 1", "foe 1 3 = NONE",
            "foe 0 3 = NONE", "foe 0 29 = NONE", "foe 2 0 = UNKNOWN", "foe -1 0 = UNKNOWN", "foe MIN 0 = UNKNOWN",
            "foe MAX 0 = UNKNOWN", "foe 0 30 = OUTSIDE", "foe 0 -1 = OUTSIDE", "foe 0 MIN = OUTSIDE",
            "foe 0 MAX = OUTSIDE", "foe 2 30 = UNKNOWN");
        said.due(new ToothField(), "foe 0 0 = UNKNOWN", "foe 0 30 = UNKNOWN");
        said.due(Sown.sown("z12;.."), "foe 0 0 = UNKNOWN");
    }

    private void armourOfAMan() {
        said.promise(11, "ARMOUR of a MAN as a MINUTE ends (of who fell, as it was then). UNKNOWN; OUTSIDE.");
        said.due(Sown.sown(PAIR, "stone 1 2", "stone 0 9"), "armour 0 1 = 5", "armour 0 2 = 2", "armour 1 2 = 4",
            "armour 0 3 = -1", "armour 1 3 = -1", "armour 0 29 = -1", "armour 1 29 = -1", "armour 2 0 = UNKNOWN",
            "armour -1 0 = UNKNOWN", "armour MIN 0 = UNKNOWN", "armour MAX 0 = UNKNOWN", "armour 0 30 = OUTSIDE",
            "armour 0 -1 = OUTSIDE", "armour 0 MIN = OUTSIDE", "armour 0 MAX = OUTSIDE", "armour 2 30 = UNKNOWN");
        said.due(new ToothField(), "armour 0 0 = UNKNOWN", "armour 0 30 = UNKNOWN");
    }

    private void leftWithoutAField() {
        said.promise(12, "LEFT, as a set. STATE: there is no FIELD.");
        said.due(new ToothField(), "left = STATE");
        said.due(States.bare(), "left = STATE", "field 0 0 0 4 = -100", "left = STATE");
        said.due(Sown.sown("z12;.."), "left = 0");
        said.due(Sown.sown("z12;.m011"), "left = 1");
    }

    private void fallsOfAMan() {
        said.promise(13, "FALLS; NONE: he is LEFT. UNKNOWN.");
        said.due(Sown.sown(PAIR, "stone 0 0"), "falls 0 = NONE", "falls 1 = 0", "falls 2 = UNKNOWN",
            "falls -1 = UNKNOWN", "falls MIN = UNKNOWN", "falls MAX = UNKNOWN");
        said.due(new ToothField(), "falls 0 = UNKNOWN");
        said.due(Sown.sown("z12;.."), "falls 0 = UNKNOWN");
    }
}
