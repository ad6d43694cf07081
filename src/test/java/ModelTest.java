import java.lang.reflect.Method;
import java.util.Arrays;
import java.util.Random;

/** Runs of calls, chosen with a fixed seed, of which the program and the model must answer each alike. */
final class ModelTest {
    private static final int OBJECTS = 1500;
    private static final int CALLS = 512;
    private static final Integer[] EDGES = {-1, Integer.MIN_VALUE, Integer.MAX_VALUE, 30, 31, 60, 61, 9, 100};

    /** A call and what its numbers stand for: m man, t minute, w what, k sheet, l lane, i place, n length, v value. */
    private static final String[] CHOICES = {
        "ofMan m w", "far m m", "sign v", "law w", "law w", "stone m t", "stone m t", "stone m t", "stone m t",
        "undo w", "stands t", "foe m t", "foe m t", "armour m t", "left", "falls m", "cast t w", "save m t", "cull m",
        "sow w", "worth m", "game w", "reading m t b", "reading m t b", "back w", "whence t", "laws", "kinds m",
        "odds m w", "coin w", "row k l i n", "row k l i n", "sheet k l n", "lose k", "put k i v", "put k i v",
        "put k i m", "cell k i l", "copy k i k i n", "tell m", "swear m", "as m w", "trace", "fault", "many w",
        "field k l i n"};

    private final Random random = new Random(20261118);
    private final Due due = new Due();
    private ToothField x;
    private Model model;
    private int used;

    private ModelTest() {
    }

    public static void main(String[] args) throws ReflectiveOperationException {
        ModelTest t = new ModelTest();
        for (int o = 0; o < OBJECTS; o++) {
            t.oneObject();
        }
        t.due.end();
    }

    private void oneObject() throws ReflectiveOperationException {
        x = new ToothField();
        model = new Model();
        used = 0;
        int calls = 100 + random.nextInt(60);
        for (int c = 0; c < calls; c++) {
            if (c == 5 || random.nextInt(40) == 0) {
                sow();
            }
            String[] parts = CHOICES[random.nextInt(CHOICES.length)].split(" ");
            Object[] args = new Object[parts.length - 1];
            for (int a = 0; a < args.length; a++) {
                args[a] = chosen(parts[a + 1].charAt(0));
            }
            both(parts[0], args);
        }
    }

    private void both(String name, Object... args) throws ReflectiveOperationException {
        if (++used > CALLS) {
            return;
        }
        Class<?>[] types = new Class<?>[args.length];
        for (int a = 0; a < args.length; a++) {
            types[a] = args[a] instanceof Boolean ? boolean.class : int.class;
        }
        Method mine = ToothField.class.getMethod(name, types);
        Method other = Model.class.getMethod(name, types);
        long got = ((Number) mine.invoke(x, args)).longValue();
        long want = ((Number) other.invoke(model, args)).longValue();
        due.is(name + Arrays.toString(args), got, want);
    }

    private Object chosen(char what) {
        if (random.nextInt(25) == 0 && what != 'b') {
            return EDGES[random.nextInt(EDGES.length)];
        }
        switch (what) {
            case 'b':
                return random.nextBoolean();
            case 'm':
                return random.nextInt(Math.max(1, model.many(1) + (random.nextInt(8) == 0 ? 2 : 0)));
            case 't':
                return random.nextInt(random.nextInt(4) == 0 ? 30 : 8);
            case 'w':
                return random.nextInt(random.nextInt(6) == 0 ? 8 : 3);
            case 'k':
                return random.nextInt(4);
            case 'l':
                return random.nextInt(random.nextInt(2) == 0 ? 1 : 3);
            case 'v':
                return random.nextInt(random.nextInt(4) == 0 ? 200000 : 20);
            default:
                return random.nextInt(random.nextInt(3) == 0 ? 62 : 8);
        }
    }

    private void sow() throws ReflectiveOperationException {
        String text = text();
        int from = random.nextInt(3);
        int lane = random.nextInt(3);
        int sheet = random.nextInt(4);
        both("sheet", sheet, lane, text.length() + from);
        for (int i = 0; i < text.length(); i++) {
            both("put", sheet, from + i, (int) text.charAt(i));
        }
        both("field", sheet, lane, from, text.length());
        both("fault");
        for (int what = 0; what <= 4; what++) {
            both("many", what);
        }
    }

    /** Mostly a TEXT; now and then one with too many men, with a wrong code, one too few or too many. */
    private String text() {
        int high = 1 + random.nextInt(4);
        int wide = 2 + random.nextInt(4);
        int most = random.nextInt(12) == 0 ? 9 : 8;
        int thin = random.nextInt(3);
        StringBuilder s = new StringBuilder("z").append(high).append(wide);
        int men = 0;
        for (int line = 0; line < high; line++) {
            s.append(';');
            for (int c = 0; c < wide; c++) {
                if (men == most || random.nextInt(3) < thin) {
                    s.append('.');
                } else {
                    men++;
                    s.append("mla".charAt(random.nextInt(3))).append(random.nextInt(2));
                    s.append(1 + random.nextInt(9)).append(1 + random.nextInt(9));
                }
            }
        }
        int spoil = random.nextInt(16);
        if (spoil == 0) {
            s.setCharAt(random.nextInt(s.length()), "z;.mla0129x".charAt(random.nextInt(11)));
        } else if (spoil == 1) {
            s.setLength(random.nextInt(s.length()));
        } else if (spoil == 2) {
            s.append("z;.mla0129x".charAt(random.nextInt(11)));
        }
        return s.toString();
    }
}
