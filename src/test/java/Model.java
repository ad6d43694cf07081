import java.util.ArrayList;
import java.util.List;
import java.util.function.IntPredicate;
import java.util.function.LongSupplier;
import java.util.regex.Matcher;
import java.util.regex.Pattern;
import java.util.stream.IntStream;

/**
 * The document told a second time, by the means that the program may not use: real rows of lanes and the machine's own
 * exceptions for FAULTS, kinds as classes, patterns for TEXTS, a snapshot of each minute.
 */
public final class Model {
    private static final int UNKNOWN = -1, OUTSIDE = -2, STATE = -3, FULL = -4, NONE = -9;

    /** A call that is refused. */
    private static final class Refused extends RuntimeException {
        private static final long serialVersionUID = 1L;
        private final int why;

        Refused(int why) {
            this.why = why;
        }
    }

    /** What is lent to all who swear. */
    private interface Sworn {
        Model owner();

        int number();

        default int swear() {
            owner().leave(4);
            return number();
        }
    }

    private static class Man implements Sworn {
        final Model owner;
        final int number, dragon, strength, armour, line, column;

        Man(Model owner, int number, int dragon, int strength, int armour, int line, int column) {
            this.owner = owner;
            this.number = number;
            this.dragon = dragon;
            this.strength = strength;
            this.armour = armour;
            this.line = line;
            this.column = column;
        }

        @Override
        public Model owner() {
            return owner;
        }

        @Override
        public int number() {
            return number;
        }

        int reach() {
            return 1;
        }

        int blow() {
            return strength;
        }

        int tell() {
            return tellAsMan();
        }

        final int tellAsMan() {
            owner.leave(1);
            return strength;
        }

        int far(Man other) {
            return Math.abs(line - other.line) + Math.abs(column - other.column);
        }
    }

    private static class Lame extends Man {
        Lame(Model owner, int number, int dragon, int strength, int armour, int line, int column) {
            super(owner, number, dragon, strength, armour, line, column);
        }

        @Override
        int blow() {
            return Math.max(1, strength / 2);
        }

        @Override
        int tell() {
            owner.leave(2);
            return super.tell() + 100;
        }
    }

    private static final class Archer extends Lame {
        Archer(Model owner, int number, int dragon, int strength, int armour, int line, int column) {
            super(owner, number, dragon, strength, armour, line, column);
        }

        @Override
        int reach() {
            return super.reach() + 2;
        }

        @Override
        int blow() {
            return super.blow() + 1;
        }

        @Override
        int tell() {
            owner.leave(3);
            int lame = super.tell();
            return lame + tellAsMan();
        }

        @Override
        public int swear() {
            owner.leave(5);
            return 20;
        }
    }

    private record Stone(int man, int minute) {
    }

    private record Reading(int man, int minute, boolean stood) {
    }

    /** How all are as a minute ends: foes (null: none), armour, who stands. */
    private record Snapshot(Integer[] foes, int[] armours, boolean[] up) {
        int set() {
            return IntStream.range(0, up.length).filter(m -> up[m]).map(m -> 1 << m).sum();
        }
    }

    private final Object[] sheets = new Object[4];
    private List<Man> men = new ArrayList<>();
    private List<Stone> stones = new ArrayList<>();
    private List<Reading> readings = new ArrayList<>();
    private int high, wide, law, trace, fault;
    private boolean sown;

    // ---- refusals and faults

    private static void need(boolean so, int why) {
        if (!so) {
            throw new Refused(why);
        }
    }

    private static int plain(LongSupplier call) {
        try {
            return (int) call.getAsLong();
        } catch (Refused r) {
            return r.why;
        }
    }

    private long naming(LongSupplier call, boolean wideAnswer) {
        fault = 0;
        try {
            return call.getAsLong();
        } catch (Refused r) {
            return wideAnswer ? Long.MIN_VALUE : r.why;
        } catch (NullPointerException e) {
            fault = 1;
        } catch (ClassCastException e) {
            fault = 2;
        } catch (IndexOutOfBoundsException e) {
            fault = 3;
        } catch (NegativeArraySizeException e) {
            fault = 4;
        }
        return wideAnswer ? Long.MIN_VALUE : -10 - fault;
    }

    private void needMan(int m) {
        need(m >= 0 && m < men.size(), UNKNOWN);
    }

    private static void needMinute(int minute) {
        need(minute >= 0 && minute <= 29, OUTSIDE);
    }

    private void needField() {
        need(sown, STATE);
    }

    private static void needSheet(int k) {
        need(k >= 0 && k <= 3, UNKNOWN);
    }

    private static void needLane(int lane) {
        need(lane >= 0 && lane <= 2, OUTSIDE);
    }

    private void leave(int body) {
        trace = 31 * trace + body;
    }

    // ---- rows of lanes

    private static int length(Object row) {
        return java.lang.reflect.Array.getLength(row);
    }

    private static int read(Object row, int i) {
        return java.lang.reflect.Array.getInt(row, i);
    }

    private int[] taken(int k, int lane, int i, int n) {
        Object row = sheets[k];
        cast(row, lane);
        if (row == null) {
            throw new NullPointerException();
        }
        if (n < 0) {
            throw new NegativeArraySizeException();
        }
        java.util.Objects.checkFromIndexSize(i, n, length(row));
        int[] all = new int[n];
        for (int c = 0; c < n; c++) {
            all[c] = read(row, i + c);
        }
        return all;
    }

    private static void cast(Object row, int lane) {
        switch (lane) {
            case 0 -> byte[].class.cast(row);
            case 1 -> short[].class.cast(row);
            default -> int[].class.cast(row);
        }
    }

    // ---- 1 the field

    private static boolean goesOn(String text) {
        if (text.replaceAll("[^mla]", "").length() > 8) {
            return false;
        }
        for (int h = 1; h <= 4; h++) {
            for (int w = 2; w <= 5; w++) {
                Matcher m = pattern(h, w).matcher(text);
                if (m.matches() || m.hitEnd()) {
                    return true;
                }
            }
        }
        return false;
    }

    private static Pattern pattern(int h, int w) {
        return Pattern.compile("z" + h + w + "(;(\\.|[mla][01][1-9][1-9]){" + w + "}){" + h + "}");
    }

    private static boolean whole(String text) {
        return text.length() > 3 && text.matches("z[1-4][2-5].*") && goesOn(text)
            && pattern(text.charAt(1) - '0', text.charAt(2) - '0').matcher(text).matches();
    }

    public int field(int sheet, int lane, int i, int n) {
        return (int) naming(() -> {
            needSheet(sheet);
            needLane(lane);
            StringBuilder text = new StringBuilder();
            for (int code : taken(sheet, lane, i, n)) {
                text.append(code >= 0 && code < 128 ? (char) code : '?');
            }
            if (!whole(text.toString())) {
                int place = 0;
                while (place < n && goesOn(text.substring(0, place + 1))) {
                    place++;
                }
                return -100 - place;
            }
            makeAnew(text.toString());
            return men.size();
        }, false);
    }

    private void makeAnew(String text) {
        men = new ArrayList<>();
        stones = new ArrayList<>();
        readings = new ArrayList<>();
        law = 0;
        sown = true;
        high = text.charAt(1) - '0';
        wide = text.charAt(2) - '0';
        String[] lines = text.substring(4).split(";");
        for (int line = 0; line < high; line++) {
            Matcher cell = Pattern.compile("\\.|[mla]...").matcher(lines[line]);
            for (int column = 0; cell.find(); column++) {
                String s = cell.group();
                if (s.length() == 4) {
                    men.add(man("mla".indexOf(s.charAt(0)), men.size(), s.charAt(1) - '0', s.charAt(2) - '0',
                        s.charAt(3) - '0', line * wide + column));
                }
            }
        }
    }

    private Man man(int kind, int number, int dragon, int strength, int armour, int cell) {
        int line = cell / wide;
        int column = cell % wide;
        return switch (kind) {
            case 0 -> new Man(this, number, dragon, strength, armour, line, column);
            case 1 -> new Lame(this, number, dragon, strength, armour, line, column);
            default -> new Archer(this, number, dragon, strength, armour, line, column);
        };
    }

    private static int kind(Man m) {
        return m instanceof Archer ? 2 : m instanceof Lame ? 1 : 0;
    }

    private int cells() {
        return sown ? high * wide : 0;
    }

    private int manIn(int c) {
        return men.stream().filter(m -> m.line * wide + m.column == c).mapToInt(m -> m.number).findFirst().orElse(NONE);
    }

    public int sign(int c) {
        return plain(() -> {
            need(c >= 0 && c < cells(), UNKNOWN);
            return manIn(c);
        });
    }

    public int ofMan(int m, int what) {
        return plain(() -> {
            needMan(m);
            need(what >= 0 && what <= 6, OUTSIDE);
            Man a = men.get(m);
            return new int[] {kind(a), a.dragon, a.strength, a.armour, a.line * wide + a.column, a.reach(),
                a.blow()}[what];
        });
    }

    public int far(int m, int other) {
        return plain(() -> {
            needMan(m);
            needMan(other);
            return men.get(m).far(men.get(other));
        });
    }

    public int law(int v) {
        return plain(() -> {
            need(v >= 0 && v <= 2, OUTSIDE);
            needField();
            int was = law;
            law = v;
            return was;
        });
    }

    public int stone(int m, int minute) {
        return plain(() -> {
            needMan(m);
            needMinute(minute);
            need(stones.size() < 6, FULL);
            stones.add(new Stone(m, minute));
            return stones.size() - 1;
        });
    }

    public int undo(int k) {
        return plain(() -> {
            need(k >= 0 && k <= stones.size(), OUTSIDE);
            stones = new ArrayList<>(stones.subList(0, stones.size() - k));
            return stones.size();
        });
    }

    // ---- 2 minutes

    private static List<Snapshot> fight(List<Man> men, List<Stone> stones, int law, int absent) {
        int n = men.size();
        Integer[] foes = new Integer[n];
        int[] armours = men.stream().mapToInt(m -> m.armour).toArray();
        boolean[] up = new boolean[n];
        for (int m = 0; m < n; m++) {
            up[m] = m != absent;
        }
        List<Snapshot> all = new ArrayList<>();
        Snapshot now = new Snapshot(foes, armours, up);
        for (int minute = 0; minute < 30; minute++) {
            now = next(men, now, stones, law, minute);
            all.add(now);
        }
        return all;
    }

    private static Snapshot next(List<Man> men, Snapshot was, List<Stone> stones, int law, int minute) {
        int n = men.size();
        Integer[] foes = was.foes.clone();
        for (Stone s : stones) {
            if (s.minute == minute && was.up[s.man] && foes[s.man] == null) {
                foes[s.man] = turned(men, was.up, men.get(s.man), law);
            }
        }
        int[] armours = was.armours.clone();
        for (int m = 0; m < n; m++) {
            if (foes[m] != null) {
                armours[foes[m]] -= men.get(m).blow();
            }
        }
        boolean[] up = was.up.clone();
        for (int m = 0; m < n; m++) {
            up[m] = up[m] && armours[m] > 0;
        }
        Integer[] then = new Integer[n];
        for (int m = 0; m < n; m++) {
            if (!up[m]) {
                continue;
            }
            if (foes[m] != null && up[foes[m]]) {
                then[m] = foes[m];
                continue;
            }
            for (int s = n - 1; s >= 0; s--) {
                if (up[s] && foes[s] != null && foes[s] == m && men.get(s).far(men.get(m)) <= men.get(m).reach()) {
                    then[m] = s;
                }
            }
        }
        return new Snapshot(then, armours, up);
    }

    private static Integer turned(List<Man> men, boolean[] up, Man who, int law) {
        List<Man> near = new ArrayList<>();
        List<Man> foreign = new ArrayList<>();
        for (Man o : men) {
            if (o != who && up[o.number] && who.far(o) <= who.reach()) {
                near.add(o);
                if (o.dragon != who.dragon) {
                    foreign.add(o);
                }
            }
        }
        List<Man> from = law == 0 ? near : law == 1 ? foreign : foreign.isEmpty() ? near : foreign;
        from.sort((a, b) -> who.far(a) != who.far(b) ? who.far(a) - who.far(b) : a.number - b.number);
        return from.isEmpty() ? null : from.get(0).number;
    }

    private Snapshot at(int minute) {
        return fight(men, stones, law, NONE).get(minute);
    }

    public int stands(int minute) {
        return plain(() -> {
            needMinute(minute);
            needField();
            return at(minute).set();
        });
    }

    public int foe(int m, int minute) {
        return plain(() -> {
            needMan(m);
            needMinute(minute);
            Integer f = at(minute).foes[m];
            return f == null ? NONE : f;
        });
    }

    public int armour(int m, int minute) {
        return plain(() -> {
            needMan(m);
            needMinute(minute);
            return at(minute).armours[m];
        });
    }

    public int left() {
        return plain(() -> {
            needField();
            return at(29).set();
        });
    }

    public int falls(int m) {
        return plain(() -> {
            needMan(m);
            return IntStream.range(0, 30).filter(t -> !at(t).up[m]).findFirst().orElse(NONE);
        });
    }

    // ---- 3 stones

    private List<Stone> with(Stone... more) {
        List<Stone> all = new ArrayList<>(stones);
        all.addAll(List.of(more));
        return all;
    }

    private int leftBy(List<Stone> thrown) {
        return fight(men, thrown, law, NONE).get(29).set();
    }

    private static int count(int set) {
        return Integer.bitCount(set);
    }

    /** The first of 0 .. n - 1 at which the score is least; NONE: there is none. */
    private static int least(int n, java.util.function.IntUnaryOperator score) {
        int best = NONE;
        for (int k = n - 1; k >= 0; k--) {
            if (best == NONE || score.applyAsInt(k) <= score.applyAsInt(best)) {
                best = k;
            }
        }
        return best;
    }

    private static int setOf(int n, IntPredicate in) {
        return IntStream.range(0, n).filter(in).map(k -> 1 << k).sum();
    }

    public int cast(int minute, int what) {
        return plain(() -> {
            needMinute(minute);
            need(what == 0 || what == 1, OUTSIDE);
            needField();
            int way = what == 0 ? 1 : -1;
            return least(men.size(), m -> way * count(leftBy(with(new Stone(m, minute)))));
        });
    }

    public int save(int m, int minute) {
        return plain(() -> {
            needMan(m);
            needMinute(minute);
            return setOf(men.size(), on -> (leftBy(with(new Stone(on, minute))) & 1 << m) != 0);
        });
    }

    public int cull(int most) {
        return plain(() -> {
            need(most >= 0 && most <= 8, OUTSIDE);
            needField();
            for (int size = 0; size <= men.size(); size++) {
                for (int set = 0; set < 1 << men.size(); set++) {
                    if (count(set) == size && count(leftBy(withAll(set))) <= most) {
                        return set;
                    }
                }
            }
            return NONE;
        });
    }

    private List<Stone> withAll(int set) {
        List<Stone> all = new ArrayList<>(stones);
        men.stream().filter(m -> (set & 1 << m.number) != 0).forEach(m -> all.add(new Stone(m.number, 0)));
        return all;
    }

    public int sow(int dragon) {
        return plain(() -> {
            need(dragon == 0 || dragon == 1, OUTSIDE);
            needField();
            int[] free = IntStream.range(0, cells()).filter(c -> manIn(c) == NONE).toArray();
            int best = least(free.length, k -> {
                List<Man> more = new ArrayList<>(men);
                more.add(man(0, men.size(), dragon, 5, 5, free[k]));
                return count(fight(more, stones, law, NONE).get(29).set() & (1 << men.size()) - 1);
            });
            return best == NONE ? NONE : free[best];
        });
    }

    public int worth(int m) {
        return plain(() -> {
            needMan(m);
            int without = count(fight(men, stones, law, m).get(29).set());
            return 100 + without - count(at(29).set() & ~(1 << m));
        });
    }

    public int game(int what) {
        return plain(() -> {
            need(what == 0 || what == 1, OUTSIDE);
            needField();
            int first = least(men.size(), this::answered);
            return first == NONE || what == 1 ? first : answered(first);
        });
    }

    private int answered(int first) {
        return IntStream.range(0, men.size())
            .map(m -> count(leftBy(with(new Stone(first, 0), new Stone(m, 5))))).max().orElse(NONE);
    }

    // ---- 4 what was seen

    private boolean so(List<Snapshot> run) {
        return readings.stream().allMatch(r -> run.get(r.minute).up[r.man] == r.stood);
    }

    public int reading(int m, int minute, boolean stood) {
        return plain(() -> {
            needMan(m);
            needMinute(minute);
            need(readings.size() < 8, FULL);
            readings.add(new Reading(m, minute, stood));
            return readings.size() - 1;
        });
    }

    public int back(int k) {
        return plain(() -> {
            need(k >= 0 && k <= readings.size(), OUTSIDE);
            readings = new ArrayList<>(readings.subList(0, readings.size() - k));
            return readings.size();
        });
    }

    public int whence(int minute) {
        return plain(() -> {
            needMinute(minute);
            needField();
            return setOf(men.size(), m -> so(fight(men, with(new Stone(m, minute)), law, NONE)));
        });
    }

    public int laws() {
        return plain(() -> {
            needField();
            return setOf(3, v -> so(fight(men, stones, v, NONE)));
        });
    }

    public int kinds(int m) {
        return plain(() -> {
            needMan(m);
            return setOf(3, v -> {
                Man own = men.get(m);
                List<Man> others = new ArrayList<>(men);
                others.set(m, man(v, m, own.dragon, own.strength, own.armour, own.line * wide + own.column));
                return so(fight(others, stones, law, NONE));
            });
        });
    }

    public long odds(int m, int which) {
        return naming0(() -> {
            needMan(m);
            need(which == 0 || which == 1, OUTSIDE);
            int all = 1 << stones.size();
            int upper = 0;
            for (int set = 0; set < all; set++) {
                List<Stone> thrown = new ArrayList<>();
                for (int s = 0; s < stones.size(); s++) {
                    if ((set & 1 << s) != 0) {
                        thrown.add(stones.get(s));
                    }
                }
                upper += leftBy(thrown) >> m & 1;
            }
            int g = java.math.BigInteger.valueOf(upper).gcd(java.math.BigInteger.valueOf(all)).intValue();
            return which == 0 ? upper / g : all / g;
        });
    }

    private static long naming0(LongSupplier call) {
        try {
            return call.getAsLong();
        } catch (Refused r) {
            return Long.MIN_VALUE;
        }
    }

    public int coin(int dragon) {
        return plain(() -> {
            need(dragon == 0 || dragon == 1, OUTSIDE);
            needField();
            int set = at(29).set();
            return men.stream().filter(m -> m.dragon == dragon && (set & 1 << m.number) != 0)
                .mapToInt(m -> m.strength).sum();
        });
    }

    public int row(int sheet, int lane, int i, int n) {
        return (int) naming(() -> {
            needSheet(sheet);
            needLane(lane);
            int[] on = taken(sheet, lane, i, n);
            needField();
            need(n <= 30, OUTSIDE);
            List<Stone> thrown = new ArrayList<>();
            for (int minute = 0; minute < n; minute++) {
                needMan(on[minute]);
                thrown.add(new Stone(on[minute], minute));
            }
            return leftBy(thrown);
        }, false);
    }

    // ---- 5 sheets, parts

    public int sheet(int k, int lane, int n) {
        return (int) naming(() -> {
            needSheet(k);
            needLane(lane);
            need(n <= 60, OUTSIDE);
            sheets[k] = lane == 0 ? new byte[n] : lane == 1 ? new short[n] : new int[n];
            return 1;
        }, false);
    }

    public int lose(int k) {
        return plain(() -> {
            needSheet(k);
            int had = sheets[k] == null ? 0 : 1;
            sheets[k] = null;
            return had;
        });
    }

    public int put(int k, int i, int v) {
        return (int) naming(() -> {
            needSheet(k);
            if (sheets[k] instanceof byte[] b) {
                b[i] = (byte) v;
            } else if (sheets[k] instanceof short[] s) {
                s[i] = (short) v;
            } else {
                ((int[]) sheets[k])[i] = v;
            }
            return 1;
        }, false);
    }

    public long cell(int k, int i, int lane) {
        return naming(() -> {
            needSheet(k);
            needLane(lane);
            cast(sheets[k], lane);
            return read(sheets[k], i);
        }, true);
    }

    public int copy(int k, int i, int other, int j, int n) {
        return (int) naming(() -> {
            needSheet(k);
            needSheet(other);
            try {
                System.arraycopy(sheets[k], i, sheets[other], j, n);
            } catch (ArrayStoreException e) {
                throw new ClassCastException();
            }
            return n;
        }, false);
    }

    public int tell(int m) {
        return plain(() -> {
            needMan(m);
            return men.get(m).tell();
        });
    }

    public int swear(int m) {
        return plain(() -> {
            needMan(m);
            return men.get(m).swear();
        });
    }

    public int as(int m, int kind) {
        return (int) naming(() -> {
            needMan(m);
            need(kind >= 0 && kind <= 2, OUTSIDE);
            List<Class<? extends Man>> all = List.of(Man.class, Lame.class, Archer.class);
            all.get(kind).cast(men.get(m));
            return 1;
        }, false);
    }

    public int trace() {
        return trace;
    }

    public int fault() {
        return fault;
    }

    public int many(int what) {
        return plain(() -> {
            need(what >= 0 && what <= 4, OUTSIDE);
            return new int[] {cells(), men.size(), stones.size(), readings.size(), law}[what];
        });
    }
}
