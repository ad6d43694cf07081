/** The edges of what the document says of all calls: REFUSALS, FAULTS, NONE, sets, shares. */
final class TermEdges {
    private final Said said;

    TermEdges(Said said) {
        this.said = said;
    }

    void all() {
        orderOfRefusals();
        orderWhereFaultsAreBetween();
        refusalsChangeNothingWithoutAField();
        refusalsOfTheFieldChangeNothing();
        refusalsOfQuestionsChangeNothing();
        refusalsOfSheetsChangeNothing();
        refusalsMakeTheFaultNone();
        nothing();
        ofAnotherLaneOrKind();
        index();
        indexWhereNoneIsTaken();
        size();
        firstFaultThatIsComeTo();
        answersOfFaults();
        faultsChangeNothing();
        none();
        setsAsBits();
        shares();
    }

    /** Each call with two wrongs: the one that its line tells first is answered. */
    private void orderOfRefusals() {
        said.terms("REFUSALS, in the order in which a call's line tells them: UNKNOWN (there is no such CELL, MAN, "
            + "SHEET, place), OUTSIDE (another number is not as told), STATE (as told), FULL;");
        said.due(States.full(), "ofMan 2 7 = UNKNOWN", "stone 2 30 = UNKNOWN", "stone 0 30 = OUTSIDE",
            "stone 2 0 = UNKNOWN", "stone 0 0 = FULL", "foe 2 30 = UNKNOWN", "armour 2 30 = UNKNOWN",
            "save 2 30 = UNKNOWN", "reading 2 30 true = UNKNOWN", "reading 2 0 true = UNKNOWN",
            "reading 0 30 true = OUTSIDE", "reading 0 0 true = FULL", "as 2 3 = UNKNOWN", "field 4 3 0 13 = UNKNOWN",
            "row 4 3 0 1 = UNKNOWN", "sheet 4 3 61 = UNKNOWN", "sheet 4 0 61 = UNKNOWN", "sheet -1 3 0 = UNKNOWN");
        said.due(States.bare(), "law 3 = OUTSIDE", "stands 30 = OUTSIDE", "cast 30 0 = OUTSIDE", "cast 0 2 = OUTSIDE",
            "cull 9 = OUTSIDE", "sow 2 = OUTSIDE", "game 2 = OUTSIDE", "whence 30 = OUTSIDE", "coin 2 = OUTSIDE",
            "law 0 = STATE", "stands 0 = STATE", "cast 0 0 = STATE", "cull 0 = STATE", "sow 0 = STATE",
            "game 0 = STATE", "whence 0 = STATE", "coin 0 = STATE", "left = STATE", "laws = STATE",
            "stone 0 30 = UNKNOWN", "foe 0 30 = UNKNOWN", "armour 0 30 = UNKNOWN", "save 0 30 = UNKNOWN",
            "reading 0 30 true = UNKNOWN", "ofMan 0 7 = UNKNOWN", "as 0 3 = UNKNOWN");
    }

    private void orderWhereFaultsAreBetween() {
        said.terms("in the order in which a call's line tells them");
        said.due(States.full(), "field 4 0 -1 -1 = UNKNOWN", "field 1 3 -1 -1 = OUTSIDE", "row 4 0 -1 -1 = UNKNOWN",
            "row 1 3 -1 -1 = OUTSIDE", "sheet 4 0 -1 = UNKNOWN", "sheet 0 3 -1 = OUTSIDE", "put 4 -1 0 = UNKNOWN",
            "copy 4 -1 1 -1 -1 = UNKNOWN", "copy 1 -1 4 -1 -1 = UNKNOWN", "as 2 2 = UNKNOWN", "as 0 3 = OUTSIDE",
            "row 2 2 0 31 = OUTSIDE", "row 2 2 1 30 = UNKNOWN", "row 2 2 0 41 = INDEX");
        said.due(States.bare(), "row 2 2 0 31 = STATE", "row 2 2 1 30 = STATE", "row 2 2 0 41 = INDEX",
            "row 2 2 0 -1 = SIZE", "row 1 2 0 0 = NULL", "row 2 1 0 0 = CAST", "row 2 3 0 0 = OUTSIDE");
    }

    private void refusalsChangeNothingWithoutAField() {
        said.terms("they change nothing (but fault(), of a call that names FAULTS).");
        said.changeNothing(States::bare, "law 0 = STATE", "law 1 = STATE", "law 2 = STATE", "law 3 = OUTSIDE",
            "stone 0 0 = UNKNOWN", "undo 1 = OUTSIDE", "undo -1 = OUTSIDE", "reading 0 0 true = UNKNOWN",
            "reading 0 0 false = UNKNOWN", "back 1 = OUTSIDE", "back -1 = OUTSIDE", "stands 0 = STATE",
            "foe 0 0 = UNKNOWN", "armour 0 0 = UNKNOWN", "left = STATE", "falls 0 = UNKNOWN", "cast 0 0 = STATE",
            "save 0 0 = UNKNOWN", "cull 0 = STATE", "sow 0 = STATE", "worth 0 = UNKNOWN", "game 0 = STATE",
            "whence 0 = STATE", "laws = STATE", "kinds 0 = UNKNOWN", "odds 0 0 = LOST", "coin 0 = STATE",
            "row 0 0 0 1 = STATE", "row 2 2 0 31 = STATE", "tell 0 = UNKNOWN", "swear 0 = UNKNOWN", "as 0 0 = UNKNOWN",
            "sign 0 = UNKNOWN", "ofMan 0 0 = UNKNOWN", "far 0 0 = UNKNOWN", "field 0 0 0 4 = -100",
            "field 3 1 0 0 = -100");
    }

    private void refusalsOfTheFieldChangeNothing() {
        said.terms("they change nothing (but fault(), of a call that names FAULTS).");
        said.changeNothing(States::full, "field -1 1 0 13 = UNKNOWN", "field 4 1 0 13 = UNKNOWN",
            "field 3 -1 0 13 = OUTSIDE", "field 3 3 0 13 = OUTSIDE", "field 3 1 0 12 = -112", "field 3 1 1 12 = -100",
            "field 3 1 13 0 = -100", "sign 3 = UNKNOWN", "sign -1 = UNKNOWN", "ofMan 2 0 = UNKNOWN",
            "ofMan 0 7 = OUTSIDE", "far 0 2 = UNKNOWN", "far 2 0 = UNKNOWN", "law 3 = OUTSIDE", "law -1 = OUTSIDE",
            "stone 2 0 = UNKNOWN", "stone -1 0 = UNKNOWN", "stone 0 30 = OUTSIDE", "stone 0 -1 = OUTSIDE",
            "stone 0 0 = FULL", "undo 7 = OUTSIDE", "undo -1 = OUTSIDE", "undo MIN = OUTSIDE", "undo MAX = OUTSIDE");
    }

    private void refusalsOfQuestionsChangeNothing() {
        said.terms("they change nothing (but fault(), of a call that names FAULTS).");
        said.changeNothing(States::full, "stands 30 = OUTSIDE", "stands -1 = OUTSIDE", "foe 2 0 = UNKNOWN",
            "foe 0 30 = OUTSIDE", "armour 2 0 = UNKNOWN", "armour 0 30 = OUTSIDE", "falls 2 = UNKNOWN",
            "cast 30 0 = OUTSIDE", "cast 0 2 = OUTSIDE", "save 2 0 = UNKNOWN", "save 0 30 = OUTSIDE",
            "cull 9 = OUTSIDE", "cull -1 = OUTSIDE", "sow 2 = OUTSIDE", "sow -1 = OUTSIDE", "worth 2 = UNKNOWN",
            "game 2 = OUTSIDE", "game -1 = OUTSIDE", "reading 2 0 true = UNKNOWN", "reading 0 30 true = OUTSIDE",
            "reading 0 0 true = FULL", "reading 0 0 false = FULL", "back 9 = OUTSIDE", "back -1 = OUTSIDE",
            "back MIN = OUTSIDE", "back MAX = OUTSIDE", "whence 30 = OUTSIDE", "whence -1 = OUTSIDE",
            "kinds 2 = UNKNOWN", "kinds -1 = UNKNOWN", "odds 2 0 = LOST", "odds 0 2 = LOST", "coin 2 = OUTSIDE",
            "coin -1 = OUTSIDE", "row 4 0 0 1 = UNKNOWN", "row 0 3 0 1 = OUTSIDE", "row 2 2 0 31 = OUTSIDE",
            "row 0 0 0 4 = UNKNOWN", "row 0 0 3 1 = UNKNOWN");
    }

    private void refusalsOfSheetsChangeNothing() {
        said.terms("they change nothing (but fault(), of a call that names FAULTS).");
        said.changeNothing(States::full, "sheet 4 0 1 = UNKNOWN", "sheet -1 0 1 = UNKNOWN", "sheet 0 3 1 = OUTSIDE",
            "sheet 0 -1 1 = OUTSIDE", "sheet 0 0 61 = OUTSIDE", "sheet 1 2 61 = OUTSIDE", "lose 4 = UNKNOWN",
            "lose -1 = UNKNOWN", "put 4 0 9 = UNKNOWN", "put -1 0 9 = UNKNOWN", "cell 4 0 0 = LOST",
            "cell 0 0 3 = LOST", "copy 4 0 0 0 1 = UNKNOWN", "copy 0 0 4 0 1 = UNKNOWN", "copy -1 0 0 0 1 = UNKNOWN",
            "copy 0 0 -1 0 1 = UNKNOWN", "tell 2 = UNKNOWN", "tell -1 = UNKNOWN", "swear 2 = UNKNOWN",
            "swear -1 = UNKNOWN", "as 2 0 = UNKNOWN", "as 0 3 = OUTSIDE", "as 0 -1 = OUTSIDE", "many 5 = OUTSIDE",
            "many -1 = OUTSIDE");
    }

    private void refusalsMakeTheFaultNone() {
        said.terms("(but fault(), of a call that names FAULTS)");
        String[] refused = {"field 4 0 0 0", "field 0 3 0 0", "row 4 0 0 0", "row 0 3 0 0", "row 2 2 0 31",
            "row 0 0 3 1", "sheet 4 0 0", "sheet 0 3 0", "sheet 0 0 61", "put 4 0 0", "cell 4 0 0", "cell 0 0 3",
            "copy 4 0 0 0 0", "copy 0 0 4 0 0", "as 2 0", "as 0 3"};
        for (String call : refused) {
            ToothField x = States.full();
            said.due(x, "fault = 2");
            Calls.answer(x, call);
            said.due(x, "fault = 0");
        }
    }

    private void nothing() {
        said.terms("FAULTS are the machine's: 1 NULL (there is nothing),");
        ToothField x = States.full();
        said.due(x, "field 1 0 0 0 = NULL", "fault = 1", "as 0 0 = 1", "row 1 0 0 0 = NULL", "fault = 1", "as 0 0 = 1",
            "put 1 0 0 = NULL", "fault = 1", "as 0 0 = 1", "cell 1 0 0 = LOST", "fault = 1", "as 0 0 = 1",
            "copy 1 0 0 0 0 = NULL", "fault = 1", "as 0 0 = 1", "copy 0 0 1 0 0 = NULL", "fault = 1", "as 0 0 = 1",
            "copy 1 0 1 0 0 = NULL", "fault = 1");
    }

    private void ofAnotherLaneOrKind() {
        said.terms("2 CAST (it is of another lane, kind),");
        ToothField x = States.full();
        said.due(x, "as 0 0 = 1", "field 3 0 0 13 = CAST", "fault = 2", "field 3 2 0 13 = CAST", "as 0 0 = 1",
            "row 0 1 0 1 = CAST", "fault = 2", "row 0 2 0 1 = CAST", "as 0 0 = 1", "cell 2 0 0 = LOST", "fault = 2",
            "as 0 0 = 1", "cell 2 0 1 = LOST", "fault = 2", "as 0 0 = 1", "copy 0 0 2 0 1 = CAST", "fault = 2",
            "as 0 0 = 1", "as 0 1 = CAST", "fault = 2", "as 0 0 = 1", "as 0 2 = CAST", "fault = 2", "as 1 1 = 1",
            "as 1 2 = CAST", "fault = 2");
    }

    private void index() {
        said.terms("3 INDEX");
        ToothField x = States.full();
        said.due(x, "put 0 4 1 = INDEX", "fault = 3", "put 0 -1 1 = INDEX", "put 0 MAX 1 = INDEX",
            "put 0 MIN 1 = INDEX", "put 0 3 1 = 1", "cell 0 4 0 = LOST", "fault = 3", "put 0 3 1 = 1",
            "cell 0 -1 0 = LOST", "fault = 3", "cell 0 MAX 0 = LOST", "cell 0 MIN 0 = LOST", "cell 0 3 0 = 1",
            "fault = 0");
    }

    /** Also of a row without cells: there i is 0 alone. */
    private void indexWhereNoneIsTaken() {
        said.terms("(of cells from i on also where i is not 0 .. how many there are, if none of them is taken, too),");
        ToothField x = States.full();
        x.sheet(1, 0, 0);
        said.due(x, "field 0 0 5 0 = INDEX", "field 0 0 -1 0 = INDEX", "field 0 0 MAX 0 = INDEX",
            "field 0 0 MIN 0 = INDEX", "fault = 3", "field 0 0 4 0 = -100", "fault = 0", "field 1 0 0 0 = -100",
            "field 1 0 1 0 = INDEX", "field 1 0 -1 0 = INDEX");
        said.due(x, "row 0 0 5 0 = INDEX", "row 0 0 -1 0 = INDEX", "row 0 0 MAX 0 = INDEX", "row 0 0 MIN 0 = INDEX",
            "fault = 3", "row 0 0 4 0 = 3", "fault = 0", "row 1 0 0 0 = 3", "row 1 0 1 0 = INDEX",
            "row 1 0 -1 0 = INDEX");
        said.due(x, "copy 0 5 0 0 0 = INDEX", "copy 0 -1 0 0 0 = INDEX", "copy 0 MAX 0 0 0 = INDEX",
            "copy 0 0 0 5 0 = INDEX", "copy 0 0 0 -1 0 = INDEX", "copy 0 0 0 MIN 0 = INDEX", "fault = 3",
            "copy 0 4 0 4 0 = 0", "fault = 0", "copy 1 0 1 0 0 = 0", "copy 0 4 1 0 0 = 0", "copy 0 4 1 1 0 = INDEX",
            "copy 1 1 0 0 0 = INDEX");
    }

    private void size() {
        said.terms("4 SIZE (a length below 0).");
        ToothField x = States.full();
        said.due(x, "sheet 0 0 -1 = SIZE", "fault = 4", "sheet 0 0 MIN = SIZE", "sheet 0 0 0 = 1", "fault = 0",
            "field 3 1 0 -1 = SIZE", "fault = 4", "field 3 1 0 MIN = SIZE", "row 2 2 0 -1 = SIZE", "fault = 4",
            "row 2 2 0 MIN = SIZE", "row 2 2 0 0 = 3", "fault = 0", "copy 2 0 2 0 -1 = INDEX", "fault = 3");
    }

    /** Each call that names two FAULTS or more, with two of them at once. */
    private void firstFaultThatIsComeTo() {
        said.terms("Of a call the first that is come to, in the order told;");
        ToothField x = States.full();
        said.due(x, "field 3 0 0 -1 = CAST", "field 3 0 99 1 = CAST", "field 1 0 0 -1 = NULL", "field 1 0 99 1 = NULL",
            "field 3 1 -1 -1 = SIZE", "field 3 1 99 -1 = SIZE");
        said.due(x, "row 2 0 0 -1 = CAST", "row 2 0 99 1 = CAST", "row 1 0 0 -1 = NULL", "row 1 0 99 1 = NULL",
            "row 2 2 -1 -1 = SIZE", "row 2 2 99 -1 = SIZE");
        said.due(x, "put 1 -1 0 = NULL", "put 1 99 0 = NULL", "cell 2 99 0 = LOST", "fault = 2", "cell 2 -1 1 = LOST",
            "fault = 2", "cell 1 99 0 = LOST", "fault = 1");
        said.due(x, "copy 1 -1 0 0 1 = NULL", "copy 0 -1 1 0 1 = NULL", "copy 2 -1 1 0 1 = NULL",
            "copy 2 -1 0 0 1 = CAST", "copy 2 0 0 99 -1 = CAST");
    }

    private void answersOfFaults() {
        said.terms("it answers -10 less it (LOST, where a long is answered, as for refusals)");
        ToothField x = States.full();
        said.due(x, "put 1 0 0 = -11", "as 0 1 = -12", "put 0 4 0 = -13", "sheet 0 0 -1 = -14",
            "cell 1 0 0 = -9223372036854775808", "cell 0 0 1 = -9223372036854775808",
            "cell 0 4 0 = -9223372036854775808", "cell 4 0 0 = -9223372036854775808",
            "cell 0 0 3 = -9223372036854775808", "odds 2 0 = -9223372036854775808", "odds 0 2 = -9223372036854775808");
    }

    private void faultsChangeNothing() {
        said.terms("and changes nothing; fault() tells it.");
        said.changeNothing(States::full, "field 1 1 0 0 = NULL", "field 3 0 0 13 = CAST", "field 3 1 0 -1 = SIZE",
            "field 3 1 0 14 = INDEX", "field 3 1 1 13 = INDEX", "field 3 1 -1 13 = INDEX", "field 3 1 14 0 = INDEX",
            "row 1 0 0 1 = NULL", "row 0 1 0 1 = CAST", "row 0 0 0 -1 = SIZE", "row 0 0 0 5 = INDEX",
            "row 0 0 -1 1 = INDEX", "sheet 0 0 -1 = SIZE", "sheet 1 1 -1 = SIZE", "put 1 0 9 = NULL",
            "put 0 4 9 = INDEX", "put 0 -1 9 = INDEX", "put 3 13 9 = INDEX", "cell 1 0 0 = LOST NULL",
            "cell 0 0 2 = LOST CAST", "cell 0 4 0 = LOST INDEX", "copy 1 0 0 0 1 = NULL", "copy 0 0 1 0 1 = NULL",
            "copy 0 0 2 0 1 = CAST", "copy 0 1 0 0 4 = INDEX", "copy 0 0 0 1 4 = INDEX", "copy 2 0 2 1 40 = INDEX",
            "copy 2 30 2 0 -1 = INDEX", "as 0 1 = CAST", "as 0 2 = CAST", "as 1 2 = CAST");
        said.changeNothing(States::bare, "field 1 1 0 0 = NULL", "field 3 0 0 0 = CAST", "row 1 0 0 1 = NULL",
            "row 2 0 0 1 = CAST", "row 2 2 0 -1 = SIZE", "row 2 2 40 1 = INDEX", "put 3 0 1 = INDEX",
            "sheet 3 2 -1 = SIZE");
    }

    private void none() {
        said.terms("NONE is -9.");
        said.due(Sown.sown("z12;m055."), "sign 1 = -9", "foe 0 0 = -9", "falls 0 = -9", "cull 0 = -9");
        said.due(Sown.sown("z12;.."), "cast 0 0 = -9", "game 0 = -9", "game 1 = -9");
        said.due(Sown.sown("z12;m055m055"), "sow 0 = -9");
    }

    /** Eight MEN, each beside another; a STONE on one fells the least beside him. */
    private void setsAsBits() {
        said.terms("Sets are told as bits (bit k for number k).");
        ToothField x = Sown.sown("z25;m011m011m011m011m011;m011m011m011..");
        said.due(x, "left = 255", "stands 0 = 255", "whence 29 = 255", "save 7 29 = 255", "save 0 29 = 221", "laws = 7",
            "kinds 7 = 7", "cull 7 = 1", "cull 8 = 0");
        x.stone(7, 0);
        said.due(x, "left = 251", "stands 29 = 251", "falls 2 = 0");
    }

    private void shares() {
        said.terms("Shares are told as upper and lower number (above 0) in least terms.");
        ToothField x = Sown.sown("z12;m055m134");
        said.due(x, "odds 1 0 = 1", "odds 1 1 = 1");
        x.stone(0, 0);
        said.due(x, "odds 1 0 = 1", "odds 1 1 = 2");
        x.stone(0, 1);
        said.due(x, "odds 0 0 = 1", "odds 0 1 = 1", "odds 1 0 = 1", "odds 1 1 = 4");
        x.undo(2);
        x.stone(0, 0);
        x.stone(1, 29);
        said.due(x, "odds 1 0 = 1", "odds 1 1 = 2", "odds 0 0 = 1", "odds 0 1 = 1");
        x.undo(2);
        x.stone(1, 0);
        x.stone(1, 29);
        said.due(x, "odds 0 0 = 1", "odds 0 1 = 2");
    }
}
