/** Promises 28 to 38: sheet, lose, put, cell, copy, tell, swear, as, trace, fault, many. */
final class SheetTest {
    private static final long LOST = Long.MIN_VALUE;
    /** A man, a lame one, an archer. */
    private static final String KINDS = "z13;m035l184a056";

    private final Due due = new Due();

    private SheetTest() {
    }

    public static void main(String[] args) {
        SheetTest t = new SheetTest();
        t.sheet();
        t.lose();
        t.put();
        t.lanes();
        t.cell();
        t.copyFaults();
        t.copy();
        t.tell();
        t.swear();
        t.traceWraps();
        t.as();
        t.fault();
        t.many();
        t.due.end();
    }

    private void sheet() {
        ToothField x = new ToothField();
        due.is("no sheet", x.sheet(4, 3, 61), -1);
        due.is("no sheet", x.sheet(-1, 0, 0), -1);
        due.is("no lane", x.sheet(0, 3, -1), -2);
        due.is("no lane", x.sheet(0, -1, -1), -2);
        due.is("too long", x.sheet(0, 0, 61), -2);
        due.is("too long", x.sheet(0, 0, Integer.MAX_VALUE), -2);
        due.is("refused", x.fault(), 0);
        due.is("below 0", x.sheet(0, 0, -1), -14);
        due.is("SIZE", x.fault(), 4);
        due.is("below 0", x.sheet(0, 0, Integer.MIN_VALUE), -14);
        due.is("nothing yet", x.lose(0), 0);
        due.is("of 0", x.sheet(3, 0, 0), 1);
        due.is("no FAULT", x.fault(), 0);
        due.is("no cell", x.cell(3, 0, 0), LOST);
        due.is("of 60", x.sheet(3, 2, 60), 1);
        due.is("0 at first", x.cell(3, 59, 2), 0);
        x.put(3, 59, 7);
        due.is("too long", x.sheet(3, 2, 61), -2);
        due.is("below 0", x.sheet(3, 2, -1), -14);
        due.is("nothing changed", x.cell(3, 59, 2), 7);
        due.is("anew", x.sheet(3, 2, 60), 1);
        due.is("0 again", x.cell(3, 59, 2), 0);
        x.put(3, 1, 7);
        x.sheet(3, 2, 1);
        x.sheet(3, 2, 2);
        due.is("0 again", x.cell(3, 1, 2), 0);
    }

    private void lose() {
        ToothField x = new ToothField();
        due.is("no sheet", x.lose(4), -1);
        due.is("no sheet", x.lose(-1), -1);
        due.is("had nothing", x.lose(0), 0);
        x.sheet(0, 0, 0);
        due.is("had a row", x.lose(0), 1);
        due.is("had nothing", x.lose(0), 0);
        due.is("nothing", x.put(0, 0, 0), -11);
        due.is("lose names no FAULT", x.lose(0), 0);
        due.is("NULL still", x.fault(), 1);
    }

    private void put() {
        ToothField x = new ToothField();
        due.is("no sheet", x.put(4, -1, 0), -1);
        due.is("no sheet", x.put(-1, 0, 0), -1);
        due.is("refused", x.fault(), 0);
        due.is("nothing", x.put(0, -1, 0), -11);
        due.is("NULL", x.fault(), 1);
        x.sheet(0, 2, 3);
        due.is("beyond", x.put(0, 3, 5), -13);
        due.is("INDEX", x.fault(), 3);
        due.is("below 0", x.put(0, -1, 5), -13);
        due.is("first", x.put(0, 0, 5), 1);
        due.is("no FAULT", x.fault(), 0);
        due.is("last", x.put(0, 2, 6), 1);
        due.is("first is", x.cell(0, 0, 2), 5);
        due.is("between is", x.cell(0, 1, 2), 0);
        due.is("last is", x.cell(0, 2, 2), 6);
        due.is("another sheet", x.put(1, 0, 0), -11);
    }

    private void cutTo(int lane, int v, long want) {
        ToothField x = new ToothField();
        x.sheet(0, lane, 1);
        due.is("put " + v, x.put(0, 0, v), 1);
        due.is(v + " in lane " + lane, x.cell(0, 0, lane), want);
    }

    private void lanes() {
        cutTo(0, 127, 127);
        cutTo(0, 128, -128);
        cutTo(0, 256, 0);
        cutTo(0, -129, 127);
        cutTo(1, 128, 128);
        cutTo(1, 32767, 32767);
        cutTo(1, 32768, -32768);
        cutTo(1, 65536, 0);
        cutTo(2, 65536, 65536);
        cutTo(2, Integer.MIN_VALUE, Integer.MIN_VALUE);
        cutTo(2, Integer.MAX_VALUE, Integer.MAX_VALUE);
    }

    private void cell() {
        ToothField x = new ToothField();
        due.is("no sheet", x.cell(4, 0, 3), LOST);
        due.is("no sheet", x.cell(-1, 0, 0), LOST);
        due.is("no lane", x.cell(0, 0, 3), LOST);
        due.is("no lane", x.cell(0, 0, -1), LOST);
        due.is("refused", x.fault(), 0);
        due.is("nothing", x.cell(0, -1, 0), LOST);
        due.is("NULL", x.fault(), 1);
        due.is("no lane", x.cell(0, 0, 3), LOST);
        due.is("refused", x.fault(), 0);
        x.sheet(0, 1, 2);
        due.is("another lane", x.cell(0, -1, 0), LOST);
        due.is("CAST", x.fault(), 2);
        due.is("beyond", x.cell(0, 2, 1), LOST);
        due.is("INDEX", x.fault(), 3);
        due.is("below 0", x.cell(0, -1, 1), LOST);
        due.is("INDEX", x.fault(), 3);
        due.is("there", x.cell(0, 1, 1), 0);
        due.is("no FAULT", x.fault(), 0);
        x.lose(0);
        due.is("nothing is no CAST", x.cell(0, 0, 0), LOST);
        due.is("NULL", x.fault(), 1);
    }

    private void copyFaults() {
        ToothField x = new ToothField();
        due.is("no sheet", x.copy(4, 0, 0, 0, -1), -1);
        due.is("no sheet", x.copy(0, 0, 4, 0, -1), -1);
        due.is("no sheet", x.copy(-1, 0, 0, 0, 0), -1);
        due.is("no sheet", x.copy(0, 0, -1, 0, 0), -1);
        due.is("refused", x.fault(), 0);
        due.is("nothing", x.copy(0, -1, 1, 0, -1), -11);
        x.sheet(0, 0, 3);
        due.is("nothing there", x.copy(0, -1, 1, 0, -1), -11);
        due.is("nothing here", x.copy(1, -1, 0, 0, -1), -11);
        due.is("NULL", x.fault(), 1);
        x.sheet(1, 1, 4);
        due.is("unlike lanes", x.copy(0, -1, 1, 0, -1), -12);
        due.is("CAST", x.fault(), 2);
        x.sheet(1, 0, 4);
        due.is("n below 0", x.copy(0, 0, 1, 0, -1), -13);
        due.is("INDEX", x.fault(), 3);
        due.is("i below 0", x.copy(0, -1, 1, 0, 0), -13);
        due.is("j below 0", x.copy(0, 0, 1, -1, 0), -13);
        due.is("i beyond", x.copy(0, 4, 1, 0, 0), -13);
        due.is("j beyond", x.copy(0, 0, 1, 5, 0), -13);
        due.is("n beyond here", x.copy(0, 0, 1, 0, 4), -13);
        due.is("n beyond here", x.copy(0, 1, 1, 0, 3), -13);
        due.is("n beyond there", x.copy(0, 0, 1, 2, 3), -13);
        due.is("i and n that wrap", x.copy(0, 2, 1, 0, Integer.MAX_VALUE), -13);
        due.is("at both ends", x.copy(0, 3, 1, 4, 0), 0);
        due.is("no FAULT", x.fault(), 0);
        due.is("all that fit", x.copy(0, 0, 1, 1, 3), 3);
    }

    private void copy() {
        ToothField x = new ToothField();
        x.sheet(0, 2, 5);
        x.sheet(1, 2, 3);
        for (int i = 0; i < 5; i++) {
            x.put(0, i, i + 1);
        }
        due.is("to another", x.copy(0, 2, 1, 1, 2), 2);
        cellsAre(x, 1, 0, 3, 4);
        cellsAre(x, 0, 1, 2, 3, 4, 5);
        due.is("up, as they were", x.copy(0, 0, 0, 1, 4), 4);
        cellsAre(x, 0, 1, 1, 2, 3, 4);
        due.is("down, as they were", x.copy(0, 1, 0, 0, 4), 4);
        cellsAre(x, 0, 1, 2, 3, 4, 4);
        due.is("beyond", x.copy(0, 2, 1, 1, 3), -13);
        cellsAre(x, 1, 0, 3, 4);
    }

    private void cellsAre(ToothField x, int k, int... want) {
        for (int i = 0; i < want.length; i++) {
            due.is("cell " + i + " of " + k, x.cell(k, i, 2), want[i]);
        }
    }

    private static int traceOf(int... bodies) {
        int t = 0;
        for (int b : bodies) {
            t = 31 * t + b;
        }
        return t;
    }

    private void tell() {
        ToothField x = new ToothField();
        due.is("no man", x.tell(0), -1);
        Sown.read(x, KINDS);
        due.is("no man", x.tell(3), -1);
        due.is("no man", x.tell(-1), -1);
        due.is("no trace", x.trace(), 0);
        due.is("a man", x.tell(0), 3);
        due.is("its trace", x.trace(), traceOf(1));
        due.is("a lame one", x.tell(1), 108);
        due.is("its trace", x.trace(), traceOf(1, 2, 1));
        due.is("an archer", x.tell(2), 110);
        due.is("its trace", x.trace(), traceOf(1, 2, 1, 3, 2, 1, 1));
    }

    private void swear() {
        ToothField x = new ToothField();
        due.is("no man", x.swear(0), -1);
        Sown.read(x, KINDS);
        due.is("no man", x.swear(3), -1);
        due.is("no man", x.swear(-1), -1);
        due.is("no trace", x.trace(), 0);
        due.is("a man", x.swear(0), 0);
        due.is("its trace", x.trace(), traceOf(4));
        due.is("a lame one", x.swear(1), 1);
        due.is("its trace", x.trace(), traceOf(4, 4));
        due.is("an archer", x.swear(2), 20);
        due.is("its trace", x.trace(), traceOf(4, 4, 5));
    }

    private void traceWraps() {
        ToothField x = Sown.sown(KINDS);
        int want = 0;
        for (int k = 0; k < 20; k++) {
            x.swear(2);
            want = 31 * want + 5;
            due.is("trace", x.trace(), want);
        }
    }

    private void as() {
        ToothField x = new ToothField();
        due.is("no man", x.as(0, 3), -1);
        Sown.read(x, KINDS);
        due.is("no man", x.as(3, 3), -1);
        due.is("no man", x.as(-1, 0), -1);
        for (int m = 0; m < 3; m++) {
            due.is("no kind", x.as(m, 3), -2);
            due.is("no kind", x.as(m, -1), -2);
            due.is("refused", x.fault(), 0);
            for (int kind = 0; kind < 3; kind++) {
                due.is(m + " as " + kind, x.as(m, kind), kind <= m ? 1 : -12);
                due.is("its FAULT", x.fault(), kind <= m ? 0 : 2);
            }
        }
    }

    /** Calls that name no FAULT leave the latest; those that do, and are refused, make it 0. */
    private void fault() {
        ToothField x = Sown.sown(KINDS);
        due.is("CAST", x.as(0, 2), -12);
        x.sign(99);
        x.ofMan(9, 9);
        x.far(9, 9);
        x.law(9);
        x.stone(9, 9);
        x.undo(9);
        x.stands(99);
        x.foe(9, 9);
        x.armour(9, 9);
        x.left();
        x.falls(9);
        x.cast(99, 9);
        x.save(9, 9);
        x.cull(9);
        x.sow(9);
        x.worth(9);
        x.game(9);
        x.reading(9, 9, true);
        x.back(9);
        x.whence(99);
        x.laws();
        x.kinds(9);
        x.odds(9, 9);
        x.coin(9);
        x.lose(9);
        x.tell(9);
        x.swear(9);
        x.trace();
        x.many(9);
        due.is("still CAST", x.fault(), 2);
        due.is("fault itself names none", x.fault(), 2);
        afterCast(x, "field", x.field(9, 0, 0, 0));
        afterCast(x, "row", x.row(9, 0, 0, 0));
        afterCast(x, "sheet", x.sheet(9, 0, 0));
        afterCast(x, "put", x.put(9, 0, 0));
        afterCast(x, "cell", x.cell(9, 0, 0));
        afterCast(x, "copy", x.copy(9, 0, 0, 0, 0));
        afterCast(x, "as", x.as(9, 0));
    }

    private void afterCast(ToothField x, String name, long answer) {
        due.holds(name + " is refused", answer < 0);
        due.is("refused " + name, x.fault(), 0);
        x.as(0, 2);
    }

    private void many() {
        ToothField x = new ToothField();
        due.is("outside", x.many(5), -2);
        due.is("outside", x.many(-1), -2);
        Sown.read(x, "z13;m035l184.");
        x.stone(0, 0);
        x.stone(0, 0);
        x.stone(0, 0);
        x.reading(0, 0, true);
        x.law(2);
        due.is("cells", x.many(0), 3);
        due.is("men", x.many(1), 2);
        due.is("stones", x.many(2), 3);
        due.is("readings", x.many(3), 1);
        due.is("the LAW", x.many(4), 2);
        due.is("outside", x.many(5), -2);
    }
}
