/** Makes objects whose field is read from a text. */
final class Sown {
    static final int SHEET = 3;
    static final int INTS = 2;

    private Sown() {
    }

    /** The calls, as "stone 0 29", come behind the text; none of them may be refused. */
    static ToothField sown(String text, String... calls) {
        ToothField x = new ToothField();
        int men = read(x, text);
        if (men < 0) {
            throw new IllegalStateException(text + " was not taken: " + men);
        }
        for (String call : calls) {
            if (Calls.answer(x, call) < 0) {
                throw new IllegalStateException(call + " was refused on " + text);
            }
        }
        return x;
    }

    static int read(ToothField x, String text) {
        x.sheet(SHEET, INTS, text.length());
        write(x, SHEET, 0, text);
        return x.field(SHEET, INTS, 0, text.length());
    }

    static void write(ToothField x, int sheet, int from, String text) {
        for (int i = 0; i < text.length(); i++) {
            x.put(sheet, from + i, text.charAt(i));
        }
    }
}
