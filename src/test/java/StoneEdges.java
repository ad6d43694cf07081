/** The edges of "3 stones": its terms, and promises 14 to 19. */
final class StoneEdges {
    /** A STONE on 0 fells 1 at once; one on 1 fells both a MINUTE later. */
    private static final String PAIR = "z12;m055m134";
    /** Four pairs, far from one another: each STONE in MINUTE 0 fells the other one of a pair. */
    private static final String FOUR_PAIRS = "z45;m011m011.m011m011;.....;m011m011.m011m011;.....";
    /** Each fells the least beside him. */
    private static final String SQUARE = "z22;m055m055;m055m055";

    private final Said said;

    StoneEdges(Said said) {
        this.said = said;
    }

    void all() {
        throwFewestAndMost();
        throwBesideSix();
        throwInAMinute();
        throwOfSeveral();
        save();
        saveBesideSix();
        cullFewest();
        cullAboveSix();
        cullInMinuteZero();
        cullOfItsOwn();
        cullOfSeveral();
        cullNone();
        sowWhereThereAreEight();
        sowStrengthAndArmour();
        sowBehindAllOthers();
        sowWhereNothingIs();
        sowFewestOfTheOthers();
        worth();
        worthStonesOnHim();
        gameBesideStones();
        gameMinutes();
        gameStandingOrNot();
        gameFirstAndOther();
        gameOfSeveral();
        castPromise();
        savePromise();
        cullPromise();
        sowPromise();
        worthPromise();
        gamePromise();
    }

    private static ToothField withSix(String text, String stone) {
        return Sown.sown(text, stone, stone, stone, stone, stone, stone);
    }

    private void throwFewestAndMost() {
        said.terms("3 THROW: the MAN on whom one STONE more");
        said.terms("in a MINUTE leaves the fewest (what 0), the most (1):");
        said.due(Sown.sown(PAIR), "cast 0 0 = 1", "cast 0 1 = 0");
        said.due(Sown.sown("z14;m055.m055m055"), "cast 0 0 = 1", "cast 0 1 = 0");
        said.due(Sown.sown("z14;m055m055.m055"), "cast 0 0 = 0", "cast 0 1 = 2");
    }

    private void throwBesideSix() {
        said.terms("(also where there are 6)");
        ToothField x = withSix(PAIR, "stone 0 29");
        said.due(x, "stone 0 0 = FULL", "cast 0 0 = 1", "cast 0 1 = 0", "many 2 = 6", "left = 1");
        said.due(withSix("z14;m055m055.m055", "stone 2 0"), "cast 0 0 = 0", "cast 0 1 = 2");
    }

    /** In the last MINUTE 1 fells none; his STONE in the last but one fells both. */
    private void throwInAMinute() {
        said.terms("in a MINUTE leaves the fewest");
        said.due(Sown.sown(PAIR), "cast 28 0 = 1", "cast 28 1 = 0", "cast 29 0 = 0", "cast 29 1 = 1");
    }

    private void throwOfSeveral() {
        said.terms("the most (1): of several the least.");
        said.due(Sown.sown("z13;m055.m155"), "cast 0 0 = 0", "cast 0 1 = 0");
        said.due(Sown.sown(SQUARE), "cast 0 0 = 0", "cast 0 1 = 0");
        said.due(Sown.sown("z15;m055.m055m055."), "cast 0 0 = 1");
        said.due(Sown.sown("z15;m055m055.m055."), "cast 0 0 = 0");
    }

    /** On both at once 0 would be left, on 1 alone he is not. */
    private void save() {
        said.terms("SAVE for a MAN: MEN on each of whom (alone) one STONE more in a MINUTE leaves him, as a set.");
        said.due(Sown.sown(PAIR), "save 0 0 = 1", "save 1 0 = 0", "save 0 28 = 1", "save 0 29 = 3", "save 1 29 = 2");
        said.due(Sown.sown(PAIR, "stone 0 0"), "save 0 0 = 3", "save 1 0 = 0");
        said.due(Sown.sown("z12;m055."), "save 0 0 = 1");
    }

    private void saveBesideSix() {
        said.terms("one STONE more in a MINUTE leaves him");
        ToothField x = withSix(PAIR, "stone 1 29");
        said.due(x, "save 0 0 = 1", "save 1 0 = 0", "save 1 29 = 2", "many 2 = 6");
    }

    private void cullFewest() {
        said.terms("CULL for a number: the fewest STONES more");
        said.due(Sown.sown(PAIR), "cull 0 = 2", "cull 1 = 1", "cull 2 = 0", "cull 8 = 0");
        said.due(Sown.sown("z13;m019m019m151"), "cull 1 = 4");
        said.due(Sown.sown(PAIR, "stone 0 0"), "cull 1 = 0");
        said.due(Sown.sown("z12;.."), "cull 0 = 0", "cull 8 = 0");
    }

    /** Also where all of them together are more than six, and where more than six are thrown. */
    private void cullAboveSix() {
        said.terms("(also above 6),");
        ToothField x = Sown.sown(FOUR_PAIRS);
        said.due(x, "cull 0 = 255", "cull 1 = 127", "cull 2 = 63", "cull 3 = 31", "cull 4 = 15", "cull 5 = 7",
            "cull 6 = 3", "cull 7 = 1", "cull 8 = 0");
        ToothField y = withSix(FOUR_PAIRS, "stone 0 29");
        said.due(y, "cull 0 = 255", "cull 7 = 0", "cull 6 = 4", "many 2 = 6");
    }

    /** In MINUTE 0 he whom a STONE fells in it can strike; in a later one he could not. */
    private void cullInMinuteZero() {
        said.terms("in MINUTE 0,");
        said.due(Sown.sown("z12;m055m055", "stone 0 0"), "cull 0 = 2");
        said.due(Sown.sown("z12;m055m055", "stone 0 1"), "cull 0 = 3", "cull 1 = 0");
    }

    /** The archer fells who strikes him: both others must, for a second STONE on one of them is none of CULL's. */
    private void cullOfItsOwn() {
        said.terms("each on a MAN of its own (by numbers),");
        said.due(Sown.sown("z13;m011a099m011"), "cull 2 = 1", "cull 1 = 5", "cull 0 = NONE");
        said.due(Sown.sown("z13;.a099m011"), "cull 1 = 1", "cull 0 = NONE");
    }

    private void cullOfSeveral() {
        said.terms("by which no more than so many are LEFT: as a set of MEN: of several the least;");
        said.due(Sown.sown(SQUARE), "cull 3 = 1", "cull 4 = 0");
        said.due(Sown.sown("z15;m055.m055m055."), "cull 2 = 2");
        said.due(Sown.sown("z15;m055m055.m055."), "cull 2 = 1");
    }

    private void cullNone() {
        said.terms("NONE: not by all.");
        said.due(Sown.sown("z12;m011."), "cull 0 = NONE", "cull 1 = 0");
        said.due(Sown.sown("z13;m011.m011"), "cull 0 = NONE", "cull 1 = NONE", "cull 2 = 0");
        said.due(Sown.sown("z15;m011m011.m011."), "cull 0 = NONE", "cull 1 = 3");
    }

    /** By law 1 the ninth is beside 7 alone of the other DRAGON. */
    private void sowWhereThereAreEight() {
        said.terms("SOW: one MAN more (also where there are 8; kind 0, of a DRAGON,");
        ToothField x = Sown.sown("z25;m019m019m019m019m019;.m019m019m035.", "law 1", "stone 7 0");
        said.due(x, "many 1 = 8", "sow 1 = 9", "sow 0 = 5", "many 1 = 8", "sign 9 = NONE", "left = 255");
    }

    private void sowStrengthAndArmour() {
        said.terms("STRENGTH 5, ARMOUR 5,");
        said.due(Sown.sown("z13;..m045", "stone 0 0"), "sow 0 = 1");
        said.due(Sown.sown("z13;..m046", "stone 0 0"), "sow 0 = 0");
        said.due(Sown.sown("z13;..m055", "stone 0 0"), "sow 0 = 0");
        said.due(Sown.sown("z14;...a045", "stone 0 0"), "sow 0 = 2");
    }

    /** Set on the least beside him, 0 fells 1, not the one sown in CELL 0. */
    private void sowBehindAllOthers() {
        said.terms("numbered behind all others)");
        said.due(Sown.sown("z14;.m059m055.", "stone 0 0"), "sow 0 = 0", "sow 1 = 0");
    }

    private void sowWhereNothingIs() {
        said.terms("in a CELL in which nothing is,");
        said.due(Sown.sown("z12;m055m055"), "sow 0 = NONE", "sow 1 = NONE");
        said.due(Sown.sown("z22;m011m011;m011."), "sow 0 = 3");
        said.due(Sown.sown("z12;m055m051", "stone 0 0"), "left = 1", "sow 0 = NONE");
        said.due(Sown.sown("z45;.....;.....;.....;....."), "sow 0 = 0", "sow 1 = 0");
    }

    /** The one who is sown falls in CELL 1, and stands in CELL 0. */
    private void sowFewestOfTheOthers() {
        said.terms("by which the fewest of the others are LEFT: of several the least CELL.");
        said.due(Sown.sown("z13;..m059", "stone 0 0"), "sow 0 = 0");
        said.due(Sown.sown("z13;..m035", "stone 0 0"), "sow 0 = 1");
        said.due(Sown.sown("z23;...;.m035.", "stone 0 0"), "sow 0 = 1");
        said.due(Sown.sown("z23;...;.m035."), "sow 0 = 0");
    }

    private void worth() {
        said.terms("WORTH of a MAN: how many more of the others are LEFT without him from the beginning");
        said.due(Sown.sown(PAIR), "worth 0 = 100", "worth 1 = 100");
        said.due(Sown.sown(PAIR, "stone 1 0"), "worth 0 = 101", "worth 1 = 101");
        said.due(Sown.sown("z14;a011m099m011m011", "stone 0 0", "stone 0 1"), "worth 1 = 99", "worth 0 = 100");
        said.due(Sown.sown("z12;m055."), "worth 0 = 100");
    }

    /** Six STONES on the archer 6 fell six; the seventh other is out of his REACH. */
    private void worthStonesOnHim() {
        said.terms("(STONES on him do nothing).");
        said.due(Sown.sown(PAIR, "stone 0 0"), "worth 0 = 101", "worth 1 = 100");
        said.due(Sown.sown("z25;m011m011m011m011m011;m011a099m011..", "stone 6 0", "stone 6 1", "stone 6 2",
            "stone 6 3", "stone 6 4", "stone 6 5"), "left = 80", "worth 6 = 106", "worth 4 = 100");
    }

    private void gameBesideStones() {
        said.terms("GAME (besides all STONES, behind them):");
        said.due(Sown.sown(PAIR, "stone 0 0"), "game 0 = 1", "game 1 = 0");
        said.due(withSix(PAIR, "stone 0 29"), "game 0 = 0", "game 1 = 1", "many 2 = 6");
        said.due(Sown.sown("z15;m055m055.m055m055", "stone 3 9"), "left = 11", "game 0 = 2");
    }

    /**
     * The first STONE is in time for one in 0. By the second 0 fells the archer 1 ahead of his STONES from 6 on, but
     * not of those from 5 on.
     */
    private void gameMinutes() {
        said.terms("one throws a STONE in MINUTE 0 on some MAN, then another one, who sees that, in MINUTE 5 on "
            + "some MAN");
        said.due(Sown.sown("z12;m055m055", "stone 0 1"), "game 0 = 1", "game 1 = 0");
        said.due(Sown.sown("z12;m055m055", "stone 0 0"), "game 0 = 0", "game 1 = 1");
        said.due(Sown.sown("z12;m055m055", "stone 1 0", "stone 0 0"), "game 0 = 0", "game 1 = 0");
        String archer = "z15;m191a111m011m011m011";
        said.due(Sown.sown(archer, "law 2", "stone 1 6", "stone 1 7", "stone 1 8"), "game 0 = 3", "game 1 = 1");
        said.due(Sown.sown(archer, "law 2", "stone 1 5", "stone 1 6", "stone 1 7"), "game 0 = 2", "game 1 = 1");
    }

    /** A STONE on the fallen 1 leaves three; on any who stands, two. */
    private void gameStandingOrNot() {
        said.terms("(standing or not):");
        said.due(Sown.sown(SQUARE), "game 0 = 3", "game 1 = 0");
        said.due(Sown.sown(PAIR), "game 0 = 0", "game 1 = 1");
    }

    private void gameFirstAndOther() {
        said.terms("the first one wants the fewest LEFT, the other one the most: how many are LEFT then;");
        said.due(Sown.sown("z13;a092m011m011"), "game 0 = 1", "game 1 = 1");
        said.due(Sown.sown("z15;m191a111m011m011m011", "law 2", "stone 1 6", "stone 1 7", "stone 1 8"), "game 0 = 3",
            "game 1 = 1");
    }

    private void gameOfSeveral() {
        said.terms("the first one's MAN: of several the least.");
        said.due(Sown.sown("z13;m055.m155"), "game 0 = 2", "game 1 = 0");
        said.due(Sown.sown("z14;m055.m055m055"), "game 0 = 2", "game 1 = 1");
        said.due(Sown.sown("z12;.m055"), "game 0 = 1", "game 1 = 0");
    }

    private void castPromise() {
        said.promise(14,
            "THROW in a MINUTE: the MAN; NONE: there are no MEN. OUTSIDE: minute, what; STATE: there is no FIELD.");
        said.due(Sown.sown("z12;.."), "cast 0 0 = NONE", "cast 0 1 = NONE", "cast 29 0 = NONE", "cast 29 1 = NONE",
            "cast 30 0 = OUTSIDE", "cast 0 2 = OUTSIDE");
        said.due(Sown.sown("z12;m055."), "cast 0 0 = 0", "cast 29 1 = 0", "cast 30 0 = OUTSIDE", "cast -1 0 = OUTSIDE",
            "cast MIN 0 = OUTSIDE", "cast MAX 0 = OUTSIDE", "cast 0 2 = OUTSIDE", "cast 0 -1 = OUTSIDE",
            "cast 0 MIN = OUTSIDE", "cast 0 MAX = OUTSIDE");
        said.due(new ToothField(), "cast 0 0 = STATE", "cast 29 1 = STATE", "cast 30 0 = OUTSIDE",
            "cast -1 1 = OUTSIDE", "cast 0 2 = OUTSIDE", "cast 0 -1 = OUTSIDE");
    }

    private void savePromise() {
        said.promise(15, "SAVE in a MINUTE, as a set. UNKNOWN; OUTSIDE.");
        said.due(Sown.sown(PAIR), "save 2 0 = UNKNOWN", "save -1 0 = UNKNOWN", "save MIN 0 = UNKNOWN",
            "save MAX 0 = UNKNOWN", "save 0 30 = OUTSIDE", "save 0 -1 = OUTSIDE", "save 0 MIN = OUTSIDE",
            "save 0 MAX = OUTSIDE", "save 2 30 = UNKNOWN");
        said.due(new ToothField(), "save 0 0 = UNKNOWN", "save 0 30 = UNKNOWN");
        said.due(Sown.sown("z12;.."), "save 0 0 = UNKNOWN");
    }

    private void cullPromise() {
        said.promise(16, "CULL, as a set; NONE. OUTSIDE: most (0 .. 8); STATE: there is no FIELD.");
        said.due(Sown.sown("z12;m011."), "cull -1 = OUTSIDE", "cull 9 = OUTSIDE", "cull MIN = OUTSIDE",
            "cull MAX = OUTSIDE", "cull 8 = 0", "cull 0 = NONE");
        said.due(new ToothField(), "cull 0 = STATE", "cull 8 = STATE", "cull 9 = OUTSIDE", "cull -1 = OUTSIDE");
    }

    private void sowPromise() {
        said.promise(17, "SOW of a DRAGON; NONE: there is no such CELL. OUTSIDE; STATE: there is no FIELD.");
        said.due(Sown.sown("z12;m011."), "sow 0 = 1", "sow 1 = 1", "sow 2 = OUTSIDE", "sow -1 = OUTSIDE",
            "sow MIN = OUTSIDE", "sow MAX = OUTSIDE");
        said.due(Sown.sown("z12;m011m011"), "sow 0 = NONE", "sow 2 = OUTSIDE");
        said.due(new ToothField(), "sow 0 = STATE", "sow 1 = STATE", "sow 2 = OUTSIDE", "sow -1 = OUTSIDE");
        said.due(Sown.sown("z13;..m035", "law 1", "stone 0 0"), "sow 0 = 0", "sow 1 = 1");
    }

    private void worthPromise() {
        said.promise(18, "WORTH, and 100. UNKNOWN.");
        said.due(Sown.sown(PAIR), "worth 0 = 100", "worth 2 = UNKNOWN", "worth -1 = UNKNOWN", "worth MIN = UNKNOWN",
            "worth MAX = UNKNOWN");
        said.due(new ToothField(), "worth 0 = UNKNOWN");
        said.due(Sown.sown("z12;.."), "worth 0 = UNKNOWN");
    }

    private void gamePromise() {
        said.promise(19,
            "GAME: how many are LEFT (what 0), the first one's MAN (1); NONE: there are no MEN. OUTSIDE; STATE: "
            + "there is no FIELD.");
        said.due(Sown.sown("z12;.."), "game 0 = NONE", "game 1 = NONE", "game 2 = OUTSIDE", "game -1 = OUTSIDE");
        said.due(Sown.sown(PAIR), "game 0 = 0", "game 1 = 1", "game 2 = OUTSIDE", "game -1 = OUTSIDE",
            "game MIN = OUTSIDE", "game MAX = OUTSIDE");
        said.due(new ToothField(), "game 0 = STATE", "game 1 = STATE", "game 2 = OUTSIDE", "game -1 = OUTSIDE");
    }
}
