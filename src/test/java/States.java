/** Objects on which a call may be refused, and a look at all that can be seen of one, within its 512 calls. */
final class States {
    /** A man and a lame one of the other dragon beside him; one cell has nothing. */
    static final String PAIR = "z13;m055l139.";

    private States() {
    }

    /** No FIELD; SHEET 0 has 4 bytes, 1 nothing, 2 has 40 ints, 3 a row without shorts; the latest FAULT is CAST. */
    static ToothField bare() {
        ToothField x = new ToothField();
        rows(x);
        x.sheet(3, 1, 0);
        x.cell(2, 0, 0);
        return x;
    }

    /** SHEETS as above, but the TEXT on 3; the LAW is 2, there are 6 STONES, 8 READINGS; the latest FAULT is CAST. */
    static ToothField full() {
        ToothField x = new ToothField();
        rows(x);
        x.sheet(3, 1, PAIR.length());
        Sown.write(x, 3, 0, PAIR);
        x.field(3, 1, 0, PAIR.length());
        x.law(2);
        x.stone(1, 2);
        for (int s = 1; s < 6; s++) {
            x.stone(s % 2, 30 - s);
        }
        for (int r = 0; r < 8; r++) {
            x.reading(r % 2, r, r != 5 && r != 7);
        }
        x.tell(1);
        x.as(0, 2);
        return x;
    }

    private static void rows(ToothField x) {
        x.sheet(0, 0, 4);
        x.put(0, 1, 1);
        x.put(0, 3, 7);
        x.sheet(2, 2, 40);
        x.put(2, 30, 5);
    }

    /** All but fault(), which the look itself changes. */
    static String look(ToothField x) {
        StringBuilder seen = new StringBuilder();
        see(seen, x, "trace");
        for (int what = 0; what <= 4; what++) {
            see(seen, x, "many " + what);
        }
        for (int c = 0; c < 4; c++) {
            see(seen, x, "sign " + c);
        }
        for (int m = 0; m < x.many(1); m++) {
            lookAtMan(seen, x, m);
        }
        for (int minute = 0; minute < 30; minute++) {
            see(seen, x, "stands " + minute);
        }
        for (String call : new String[] {"far 0 1", "left", "laws", "whence 0", "whence 2", "coin 0", "coin 1"}) {
            see(seen, x, call);
        }
        for (int k = 0; k < 4; k++) {
            lookAtSheet(seen, x, k);
        }
        return seen.toString();
    }

    private static void lookAtMan(StringBuilder seen, ToothField x, int m) {
        for (int what = 0; what <= 6; what++) {
            see(seen, x, "ofMan " + m + " " + what);
        }
        for (int minute = 0; minute < 30; minute += 3) {
            see(seen, x, "foe " + m + " " + minute);
            see(seen, x, "armour " + m + " " + minute);
        }
        for (String call : new String[] {"falls ", "kinds ", "worth "}) {
            see(seen, x, call + m);
        }
        see(seen, x, "odds " + m + " 0");
        see(seen, x, "odds " + m + " 1");
    }

    /** The FAULT of cell -1 tells whether there is a row, and of which lane; then come its cells, till one is LOST. */
    private static void lookAtSheet(StringBuilder seen, ToothField x, int k) {
        for (int lane = 0; lane < 3; lane++) {
            x.cell(k, -1, lane);
            int fault = x.fault();
            seen.append("sheet ").append(k).append(" lane ").append(lane).append(" FAULT ").append(fault).append('\n');
            for (int i = 0; fault == 3 && i <= 60; i++) {
                long cell = x.cell(k, i, lane);
                seen.append(cell).append('\n');
                if (cell == Long.MIN_VALUE) {
                    break;
                }
            }
        }
    }

    private static void see(StringBuilder seen, ToothField x, String call) {
        seen.append(call).append(" = ").append(Calls.answer(x, call)).append('\n');
    }
}
