import java.util.function.Supplier;

/** Looks at answers that are due by a sentence of the document, which each test quotes ahead of them. */
final class Said {
    private static final String NAMES_FAULTS = " field row sheet put cell copy as ";
    private static final String[] REFUSALS = {"", "UNKNOWN", "OUTSIDE", "STATE", "FULL"};
    private static final String[] FAULTS = {"", "NULL", "CAST", "INDEX", "SIZE"};

    private final Due due = new Due();
    private final Document document = new Document();
    private String sentence = "";

    void terms(String quote) {
        quote("terms", Document.TERMS, quote);
    }

    void promise(int number, String quote) {
        quote("promise " + number, number, quote);
    }

    private void quote(String where, int part, String quote) {
        sentence = where + ", \"" + quote + "\": ";
        due.holds(sentence + "the document says so", !Document.isThere() || document.says(part, quote));
    }

    /** Rows as "stone 0 29 = 0", "stone 9 0 = UNKNOWN", "put 0 60 1 = INDEX". */
    void due(ToothField x, String... rows) {
        for (String row : rows) {
            String[] parts = row.split(" = ");
            is(x, parts[0], number(parts[1]));
        }
    }

    void is(ToothField x, String call, long want) {
        due.is(sentence + call, Calls.answer(x, call), want);
    }

    void holds(String what, boolean so) {
        due.holds(sentence + what, so);
    }

    /**
     * Rows as above, each on an object of its own: by the call nothing changes, but fault() if the call names FAULTS.
     * "cell 0 9 0 = LOST INDEX" tells the FAULT where a long is answered.
     */
    void changeNothing(Supplier<ToothField> made, String... rows) {
        int before = made.get().fault();
        String untouched = States.look(made.get());
        for (String row : rows) {
            String[] parts = row.split(" = ");
            String[] wants = parts[1].split(" ");
            ToothField x = made.get();
            is(x, parts[0], number(wants[0]));
            boolean names = NAMES_FAULTS.contains(" " + parts[0].split(" ")[0] + " ");
            due.is(sentence + "fault() behind " + parts[0], x.fault(), names ? fault(wants[wants.length - 1]) : before);
            due.holds(sentence + parts[0] + " changes nothing", States.look(x).equals(untouched));
        }
    }

    private static long number(String want) {
        for (int r = 1; r < REFUSALS.length; r++) {
            if (want.equals(REFUSALS[r])) {
                return -r;
            }
        }
        if (fault(want) > 0) {
            return -10 - fault(want);
        }
        if (want.equals("NONE")) {
            return -9;
        }
        return want.equals("LOST") ? Long.MIN_VALUE : Long.parseLong(want);
    }

    private static int fault(String want) {
        for (int f = 1; f < FAULTS.length; f++) {
            if (want.equals(FAULTS[f])) {
                return f;
            }
        }
        return 0;
    }

    void end() {
        if (Document.isThere()) {
            allIsQuoted();
        } else {
            System.out.println("the document is not there: its sentences were not compared with the quotes");
        }
        due.end();
    }

    private void allIsQuoted() {
        for (int part = Document.TERMS; part <= Document.PROMISES; part++) {
            String rest = document.notQuoted(part);
            due.holds((part == 0 ? "terms" : "promise " + part) + ", not quoted by any test: " + rest, rest.isEmpty());
        }
    }
}
