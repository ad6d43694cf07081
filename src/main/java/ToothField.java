/** Teeth that fight: men sown on a field, stones that set them on one another, and who is left at noon. */
public final class ToothField {
    public static final int UNKNOWN = -1, OUTSIDE = -2, STATE = -3, FULL = -4, NONE = -9;
    public static final long LOST = Long.MIN_VALUE;

    private static final int NO_FAULT = 0, FAULT_NULL = 1, FAULT_CAST = 2, FAULT_INDEX = 3, FAULT_SIZE = 4;
    private static final int ALLOWED = 0, BELOW_FAULTS = -10, BELOW_TEXTS = -100;

    private static final int KIND_MAN = 0, KIND_LAME = 1, KIND_ARCHER = 2, ALL_KINDS = 3;
    private static final int LAW_ANY = 0, LAW_OTHER_ALONE = 1, ALL_LAWS = 3;
    private static final int ALL_DRAGONS = 2;
    private static final int LANE_BYTES = 0, LANE_SHORTS = 1, ALL_LANES = 3;

    private static final int NOON = 30, LAST_MINUTE = 29;
    private static final int MOST_HIGH = 4, MOST_WIDE = 5, MOST_CELLS = 20;
    private static final int MOST_MEN = 8, SEATS = 9;
    private static final int MOST_STONES = 6, TRIAL_STONES = 30, MOST_READINGS = 8;
    private static final int ALL_SHEETS = 4, LONGEST = 60;

    private static final int SOWN_STRENGTH = 5, SOWN_ARMOUR = 5;
    private static final int GAME_FIRST = 0, GAME_SECOND = 5;
    private static final int WORTH_OF_NOTHING = 100, TOLD_OF_LAME = 100, SWORN_OF_ARCHER = 20;
    private static final int BODY_MAN = 1, BODY_LAME = 2, BODY_ARCHER = 3, BODY_LENT = 4, BODY_OWN = 5;

    private static final int CODE_Z = 122, CODE_SEMICOLON = 59, CODE_DOT = 46, CODE_ZERO = 48;
    private static final int[] LETTERS = {109, 108, 97};

    private final Sheet[] sheets;
    private final TextReader reader;
    private final Fight fight;
    private final Stones stones;
    private final Stones trial;
    private final Readings readings;
    private Host host;
    private Host spare;
    private boolean sown;
    private int lawNow;
    private int traced;
    private int lastFault;

    public ToothField() {
        sheets = new Sheet[ALL_SHEETS];
        for (int k = 0; k < ALL_SHEETS; k++) {
            sheets[k] = new Sheet();
        }
        reader = new TextReader();
        fight = new Fight();
        stones = new Stones(MOST_STONES);
        trial = new Stones(TRIAL_STONES);
        readings = new Readings();
        host = new Host();
        spare = new Host();
        sown = false;
        lawNow = LAW_ANY;
        traced = 0;
        lastFault = NO_FAULT;
    }

    // ---- 1 the field

    public int field(int sheet, int lane, int i, int n) {
        int wrong = wrongCells(sheet, lane, i, n);
        if (wrong != ALLOWED) {
            return wrong;
        }
        // A TEXT that is not taken changes nothing: it is read into the spare host.
        if (!reader.readInto(spare, sheets[sheet], i, n)) {
            return BELOW_TEXTS - (reader.at - i);
        }
        beginAnew();
        return host.count;
    }

    public int sign(int c) {
        if (!isBelow(c, host.cells)) {
            return UNKNOWN;
        }
        return host.manIn[c];
    }

    public int ofMan(int m, int what) {
        if (!host.has(m)) {
            return UNKNOWN;
        }
        switch (what) {
            case 0:
                return host.kind[m];
            case 1:
                return host.dragon[m];
            case 2:
                return host.strength[m];
            case 3:
                return host.shield[m];
            case 4:
                return host.place[m];
            case 5:
                return host.reachOf(m);
            case 6:
                return host.blowOf(m);
            default:
                return OUTSIDE;
        }
    }

    public int far(int m, int other) {
        if (!host.has(m) || !host.has(other)) {
            return UNKNOWN;
        }
        return host.between(m, other);
    }

    public int law(int v) {
        if (!isBelow(v, ALL_LAWS)) {
            return OUTSIDE;
        }
        if (!sown) {
            return STATE;
        }
        int before = lawNow;
        lawNow = v;
        return before;
    }

    public int stone(int m, int minute) {
        int wrong = wrongManOrMinute(m, minute);
        if (wrong != ALLOWED) {
            return wrong;
        }
        if (!stones.add(m, minute)) {
            return FULL;
        }
        return stones.count - 1;
    }

    public int undo(int k) {
        if (!isUpTo(k, stones.count)) {
            return OUTSIDE;
        }
        stones.count -= k;
        return stones.count;
    }

    // ---- 2 minutes

    public int stands(int minute) {
        if (!isBelow(minute, NOON)) {
            return OUTSIDE;
        }
        if (!sown) {
            return STATE;
        }
        return fight.run(host, stones, lawNow, minute, NONE);
    }

    public int foe(int m, int minute) {
        int wrong = wrongManOrMinute(m, minute);
        if (wrong != ALLOWED) {
            return wrong;
        }
        fight.run(host, stones, lawNow, minute, NONE);
        return fight.foeOf[m];
    }

    public int armour(int m, int minute) {
        int wrong = wrongManOrMinute(m, minute);
        if (wrong != ALLOWED) {
            return wrong;
        }
        fight.run(host, stones, lawNow, minute, NONE);
        return fight.armourOf[m];
    }

    public int left() {
        if (!sown) {
            return STATE;
        }
        return leftNow();
    }

    public int falls(int m) {
        if (!host.has(m)) {
            return UNKNOWN;
        }
        leftNow();
        return fight.fellIn[m] == NOON ? NONE : fight.fellIn[m];
    }

    // ---- 3 stones

    public int cast(int minute, int what) {
        if (!isBelow(minute, NOON) || !isBelow(what, 2)) {
            return OUTSIDE;
        }
        if (!sown) {
            return STATE;
        }
        int best = NONE;
        int bestLeft = 0;
        for (int m = 0; m < host.count; m++) {
            int now = Integer.bitCount(leftWithStone(m, minute));
            boolean better = what == 0 ? now < bestLeft : now > bestLeft;
            if (best == NONE || better) {
                best = m;
                bestLeft = now;
            }
        }
        return best;
    }

    public int save(int m, int minute) {
        int wrong = wrongManOrMinute(m, minute);
        if (wrong != ALLOWED) {
            return wrong;
        }
        int saving = 0;
        for (int on = 0; on < host.count; on++) {
            if (isIn(leftWithStone(on, minute), m)) {
                saving |= 1 << on;
            }
        }
        return saving;
    }

    public int cull(int most) {
        if (!isUpTo(most, MOST_MEN)) {
            return OUTSIDE;
        }
        if (!sown) {
            return STATE;
        }
        int best = NONE;
        int fewest = MOST_MEN + 1;
        for (int on = 0; on < 1 << host.count; on++) {
            int howMany = Integer.bitCount(on);
            if (howMany < fewest && Integer.bitCount(leftWithStonesOn(on)) <= most) {
                best = on;
                fewest = howMany;
            }
        }
        return best;
    }

    public int sow(int dragon) {
        if (!isBelow(dragon, ALL_DRAGONS)) {
            return OUTSIDE;
        }
        if (!sown) {
            return STATE;
        }
        int best = NONE;
        int fewest = SEATS;
        for (int c = 0; c < host.cells; c++) {
            if (host.manIn[c] == NONE) {
                int now = othersLeftWithSown(c, dragon);
                if (now < fewest) {
                    best = c;
                    fewest = now;
                }
            }
        }
        return best;
    }

    public int worth(int m) {
        if (!host.has(m)) {
            return UNKNOWN;
        }
        int with = Integer.bitCount(leftNow() & ~(1 << m));
        int without = Integer.bitCount(fight.run(host, stones, lawNow, LAST_MINUTE, m));
        return WORTH_OF_NOTHING + without - with;
    }

    public int game(int what) {
        if (!isBelow(what, 2)) {
            return OUTSIDE;
        }
        if (!sown) {
            return STATE;
        }
        int best = NONE;
        int fewest = SEATS;
        for (int m = 0; m < host.count; m++) {
            int now = mostLeftAfter(m);
            if (now < fewest) {
                best = m;
                fewest = now;
            }
        }
        return best == NONE || what == 1 ? best : fewest;
    }

    // ---- 4 what was seen

    public int reading(int m, int minute, boolean stood) {
        int wrong = wrongManOrMinute(m, minute);
        if (wrong != ALLOWED) {
            return wrong;
        }
        if (!readings.add(m, minute, stood)) {
            return FULL;
        }
        return readings.count - 1;
    }

    public int back(int k) {
        if (!isUpTo(k, readings.count)) {
            return OUTSIDE;
        }
        readings.count -= k;
        return readings.count;
    }

    public int whence(int minute) {
        if (!isBelow(minute, NOON)) {
            return OUTSIDE;
        }
        if (!sown) {
            return STATE;
        }
        int so = 0;
        for (int m = 0; m < host.count; m++) {
            leftWithStone(m, minute);
            if (readings.areSo(fight)) {
                so |= 1 << m;
            }
        }
        return so;
    }

    public int laws() {
        if (!sown) {
            return STATE;
        }
        int so = 0;
        for (int v = 0; v < ALL_LAWS; v++) {
            fight.run(host, stones, v, LAST_MINUTE, NONE);
            if (readings.areSo(fight)) {
                so |= 1 << v;
            }
        }
        return so;
    }

    public int kinds(int m) {
        if (!host.has(m)) {
            return UNKNOWN;
        }
        int own = host.kind[m];
        int so = 0;
        for (int v = 0; v < ALL_KINDS; v++) {
            host.kind[m] = v;
            leftNow();
            if (readings.areSo(fight)) {
                so |= 1 << v;
            }
        }
        host.kind[m] = own;
        return so;
    }

    public long odds(int m, int which) {
        if (!host.has(m) || !isBelow(which, 2)) {
            return LOST;
        }
        int upper = 0;
        int lower = 1 << stones.count;
        for (int thrown = 0; thrown < 1 << stones.count; thrown++) {
            if (isIn(leftWithSomeStones(thrown), m)) {
                upper++;
            }
        }
        // The lower number is a power of two, so halving alone brings least terms.
        for (int s = 0; s < stones.count && (upper & 1) == 0; s++) {
            upper >>= 1;
            lower >>= 1;
        }
        return which == 0 ? upper : lower;
    }

    public int coin(int dragon) {
        if (!isBelow(dragon, ALL_DRAGONS)) {
            return OUTSIDE;
        }
        if (!sown) {
            return STATE;
        }
        int standing = leftNow();
        int sum = 0;
        for (int m = 0; m < host.count; m++) {
            if (isIn(standing, m) && host.dragon[m] == dragon) {
                sum += host.strength[m];
            }
        }
        return sum;
    }

    public int row(int sheet, int lane, int i, int n) {
        int wrong = wrongCells(sheet, lane, i, n);
        if (wrong != ALLOWED) {
            return wrong;
        }
        if (!sown) {
            return STATE;
        }
        if (n > NOON) {
            return OUTSIDE;
        }
        trial.count = 0;
        for (int minute = 0; minute < n; minute++) {
            int m = sheets[sheet].at(i + minute);
            if (!host.has(m)) {
                return UNKNOWN;
            }
            trial.add(m, minute);
        }
        return fight.run(host, trial, lawNow, LAST_MINUTE, NONE);
    }

    // ---- 5 sheets, parts

    public int sheet(int k, int lane, int n) {
        lastFault = NO_FAULT;
        if (!isBelow(k, ALL_SHEETS)) {
            return UNKNOWN;
        }
        if (!isBelow(lane, ALL_LANES) || n > LONGEST) {
            return OUTSIDE;
        }
        if (n < 0) {
            return faulted(FAULT_SIZE);
        }
        sheets[k].layOut(lane, n);
        return 1;
    }

    public int lose(int k) {
        if (!isBelow(k, ALL_SHEETS)) {
            return UNKNOWN;
        }
        int had = sheets[k].laid ? 1 : 0;
        sheets[k].laid = false;
        return had;
    }

    public int put(int k, int i, int v) {
        lastFault = NO_FAULT;
        if (!isBelow(k, ALL_SHEETS)) {
            return UNKNOWN;
        }
        if (!sheets[k].laid) {
            return faulted(FAULT_NULL);
        }
        if (!isBelow(i, sheets[k].length)) {
            return faulted(FAULT_INDEX);
        }
        sheets[k].write(i, v);
        return 1;
    }

    public long cell(int k, int i, int lane) {
        lastFault = NO_FAULT;
        if (!isBelow(k, ALL_SHEETS) || !isBelow(lane, ALL_LANES)) {
            return LOST;
        }
        lastFault = sheets[k].faultOfCells(lane, 0, 0);
        if (lastFault == NO_FAULT && !isBelow(i, sheets[k].length)) {
            lastFault = FAULT_INDEX;
        }
        return lastFault == NO_FAULT ? sheets[k].at(i) : LOST;
    }

    public int copy(int k, int i, int other, int j, int n) {
        lastFault = NO_FAULT;
        if (!isBelow(k, ALL_SHEETS) || !isBelow(other, ALL_SHEETS)) {
            return UNKNOWN;
        }
        Sheet from = sheets[k];
        Sheet to = sheets[other];
        if (!from.laid || !to.laid) {
            return faulted(FAULT_NULL);
        }
        if (from.lane != to.lane) {
            return faulted(FAULT_CAST);
        }
        if (!from.holds(i, n) || !to.holds(j, n)) {
            return faulted(FAULT_INDEX);
        }
        System.arraycopy(from.cells, i, to.cells, j, n);
        return n;
    }

    public int tell(int m) {
        if (!host.has(m)) {
            return UNKNOWN;
        }
        switch (host.kind[m]) {
            case KIND_MAN:
                return toldAsMan(m);
            case KIND_LAME:
                return toldAsLame(m);
            default:
                return toldAsArcher(m);
        }
    }

    public int swear(int m) {
        if (!host.has(m)) {
            return UNKNOWN;
        }
        if (host.kind[m] == KIND_ARCHER) {
            leave(BODY_OWN);
            return SWORN_OF_ARCHER;
        }
        leave(BODY_LENT);
        return m;
    }

    public int as(int m, int kind) {
        lastFault = NO_FAULT;
        if (!host.has(m)) {
            return UNKNOWN;
        }
        if (!isBelow(kind, ALL_KINDS)) {
            return OUTSIDE;
        }
        // Each kind is also all kinds numbered below it.
        return host.kind[m] >= kind ? 1 : faulted(FAULT_CAST);
    }

    public int trace() {
        return traced;
    }

    public int fault() {
        return lastFault;
    }

    public int many(int what) {
        switch (what) {
            case 0:
                return host.cells;
            case 1:
                return host.count;
            case 2:
                return stones.count;
            case 3:
                return readings.count;
            case 4:
                return lawNow;
            default:
                return OUTSIDE;
        }
    }

    // ---- what the calls share

    private static boolean isBelow(int v, int end) {
        return v >= 0 && v < end;
    }

    private static boolean isUpTo(int v, int most) {
        return v >= 0 && v <= most;
    }

    private static boolean isIn(int set, int k) {
        return (set >> k & 1) == 1;
    }

    /** The answer to a man or a minute that is not there. */
    private int wrongManOrMinute(int m, int minute) {
        if (!host.has(m)) {
            return UNKNOWN;
        }
        return isBelow(minute, NOON) ? ALLOWED : OUTSIDE;
    }

    /** The answer to n cells of a sheet that can't be taken as a row of a lane. */
    private int wrongCells(int k, int lane, int i, int n) {
        lastFault = NO_FAULT;
        if (!isBelow(k, ALL_SHEETS)) {
            return UNKNOWN;
        }
        if (!isBelow(lane, ALL_LANES)) {
            return OUTSIDE;
        }
        int wrong = sheets[k].faultOfCells(lane, i, n);
        return wrong == NO_FAULT ? ALLOWED : faulted(wrong);
    }

    private int faulted(int wrong) {
        lastFault = wrong;
        return BELOW_FAULTS - wrong;
    }

    private void beginAnew() {
        Host read = spare;
        spare = host;
        host = read;
        sown = true;
        lawNow = LAW_ANY;
        stones.count = 0;
        readings.count = 0;
    }

    private int leftNow() {
        return fight.run(host, stones, lawNow, LAST_MINUTE, NONE);
    }

    private int leftWithStone(int m, int minute) {
        trial.take(stones);
        trial.add(m, minute);
        return fight.run(host, trial, lawNow, LAST_MINUTE, NONE);
    }

    private int leftWithStonesOn(int men) {
        trial.take(stones);
        for (int m = 0; m < host.count; m++) {
            if (isIn(men, m)) {
                trial.add(m, 0);
            }
        }
        return fight.run(host, trial, lawNow, LAST_MINUTE, NONE);
    }

    private int leftWithSomeStones(int thrown) {
        trial.count = 0;
        for (int s = 0; s < stones.count; s++) {
            if (isIn(thrown, s)) {
                trial.add(stones.man[s], stones.minute[s]);
            }
        }
        return fight.run(host, trial, lawNow, LAST_MINUTE, NONE);
    }

    private int mostLeftAfter(int first) {
        int most = 0;
        for (int second = 0; second < host.count; second++) {
            trial.take(stones);
            trial.add(first, GAME_FIRST);
            trial.add(second, GAME_SECOND);
            int now = fight.run(host, trial, lawNow, LAST_MINUTE, NONE);
            most = Math.max(most, Integer.bitCount(now));
        }
        return most;
    }

    private int othersLeftWithSown(int c, int dragon) {
        int others = (1 << host.count) - 1;
        host.add(c, KIND_MAN, dragon, SOWN_STRENGTH, SOWN_ARMOUR);
        int now = fight.run(host, stones, lawNow, LAST_MINUTE, NONE) & others;
        host.removeLast();
        return Integer.bitCount(now);
    }

    private void leave(int body) {
        traced = 31 * traced + body;
    }

    private int toldAsMan(int m) {
        leave(BODY_MAN);
        return host.strength[m];
    }

    private int toldAsLame(int m) {
        leave(BODY_LAME);
        return toldAsMan(m) + TOLD_OF_LAME;
    }

    private int toldAsArcher(int m) {
        leave(BODY_ARCHER);
        int asLame = toldAsLame(m);
        return asLame + toldAsMan(m);
    }

    /** A row of numbers of a lane, or nothing; its cells are made once and used again. */
    private static final class Sheet {
        private final int[] cells = new int[LONGEST];
        private boolean laid;
        private int lane;
        private int length;

        private void layOut(int newLane, int n) {
            laid = true;
            lane = newLane;
            length = Math.max(0, Math.min(n, LONGEST));
            for (int i = 0; i < length; i++) {
                cells[i] = 0;
            }
        }

        /** Looks at n only behind i, so that no sum of the two can wrap. */
        private boolean holds(int i, int n) {
            return isUpTo(i, length) && isUpTo(n, length - i);
        }

        private int faultOfCells(int asLane, int i, int n) {
            if (laid && lane != asLane) {
                return FAULT_CAST;
            }
            if (!laid) {
                return FAULT_NULL;
            }
            if (n < 0) {
                return FAULT_SIZE;
            }
            return holds(i, n) ? NO_FAULT : FAULT_INDEX;
        }

        private int at(int i) {
            return isBelow(i, length) ? cells[i] : NONE;
        }

        private void write(int i, int v) {
            if (!isBelow(i, length)) {
                return;
            }
            if (lane == LANE_BYTES) {
                cells[i] = (byte) v;
            } else if (lane == LANE_SHORTS) {
                cells[i] = (short) v;
            } else {
                cells[i] = v;
            }
        }
    }

    /** Reads a TEXT code by code; where it stops short, 'at' is the FIRST FAULT's place. */
    private static final class TextReader {
        private Sheet sheet;
        private int at;
        private int end;

        private boolean readInto(Host into, Sheet from, int start, int n) {
            sheet = from;
            at = start;
            end = start + n;
            if (take(CODE_Z, CODE_Z) < 0) {
                return false;
            }
            int high = digit(1, MOST_HIGH);
            if (high < 0) {
                return false;
            }
            int wide = digit(2, MOST_WIDE);
            if (wide < 0) {
                return false;
            }
            into.clear(high, wide);
            for (int r = 0; r < high; r++) {
                if (!readLine(into, r * wide, wide)) {
                    return false;
                }
            }
            return at == end;
        }

        private boolean readLine(Host into, int firstCell, int wide) {
            if (take(CODE_SEMICOLON, CODE_SEMICOLON) < 0) {
                return false;
            }
            for (int c = 0; c < wide; c++) {
                if (take(CODE_DOT, CODE_DOT) < 0 && !readMan(into, firstCell + c)) {
                    return false;
                }
            }
            return true;
        }

        private boolean readMan(Host into, int c) {
            int kind = into.count < MOST_MEN ? letter() : NONE;
            if (kind < 0) {
                return false;
            }
            int dragon = digit(0, 1);
            if (dragon < 0) {
                return false;
            }
            int strength = digit(1, 9);
            if (strength < 0) {
                return false;
            }
            int shield = digit(1, 9);
            if (shield < 0) {
                return false;
            }
            into.add(c, kind, dragon, strength, shield);
            return true;
        }

        private int letter() {
            for (int kind = 0; kind < ALL_KINDS; kind++) {
                if (take(LETTERS[kind], LETTERS[kind]) >= 0) {
                    return kind;
                }
            }
            return NONE;
        }

        private int digit(int least, int most) {
            int code = take(CODE_ZERO + least, CODE_ZERO + most);
            return code < 0 ? NONE : code - CODE_ZERO;
        }

        private int take(int least, int most) {
            if (at >= end || sheet == null) {
                return NONE;
            }
            int code = sheet.at(at);
            if (code < least || code > most) {
                return NONE;
            }
            at++;
            return code;
        }
    }

    /** The men of a field as they were sown; there is a seat more than a TEXT may fill, for one who is sown. */
    private static final class Host {
        private final int[] kind = new int[SEATS];
        private final int[] dragon = new int[SEATS];
        private final int[] strength = new int[SEATS];
        private final int[] shield = new int[SEATS];
        private final int[] place = new int[SEATS];
        private final int[] apart = new int[SEATS * SEATS];
        private final int[] manIn = new int[MOST_CELLS];
        private int wide;
        private int cells;
        private int count;

        private void clear(int newHigh, int newWide) {
            wide = newWide;
            cells = Math.max(0, Math.min(newHigh * newWide, MOST_CELLS));
            count = 0;
            for (int c = 0; c < cells; c++) {
                manIn[c] = NONE;
            }
        }

        private boolean has(int m) {
            return isBelow(m, count);
        }

        private void add(int c, int newKind, int newDragon, int newStrength, int newShield) {
            if (count >= SEATS || !isBelow(c, cells)) {
                return;
            }
            kind[count] = newKind;
            dragon[count] = newDragon;
            strength[count] = newStrength;
            shield[count] = newShield;
            place[count] = c;
            manIn[c] = count;
            for (int m = 0; m <= count; m++) {
                int steps = stepsBetween(place[m], c);
                apart[m * SEATS + count] = steps;
                apart[count * SEATS + m] = steps;
            }
            count++;
        }

        private void removeLast() {
            if (count > 0) {
                count--;
                manIn[place[count]] = NONE;
            }
        }

        private int stepsBetween(int c, int d) {
            if (wide <= 0) {
                return 0;
            }
            return Math.abs(c / wide - d / wide) + Math.abs(c % wide - d % wide);
        }

        private int between(int m, int other) {
            return apart[m * SEATS + other];
        }

        private int reachOf(int m) {
            return kind[m] == KIND_ARCHER ? 3 : 1;
        }

        private int blowOf(int m) {
            if (kind[m] == KIND_MAN) {
                return strength[m];
            }
            int ofLame = Math.max(1, strength[m] / 2);
            return kind[m] == KIND_ARCHER ? ofLame + 1 : ofLame;
        }
    }

    /** Stones by their numbers: on whom, and in which minute. */
    private static final class Stones {
        private final int[] man;
        private final int[] minute;
        private int count;

        private Stones(int room) {
            man = new int[Math.max(0, room)];
            minute = new int[Math.max(0, room)];
            count = 0;
        }

        private boolean add(int m, int newMinute) {
            if (count >= man.length) {
                return false;
            }
            man[count] = m;
            minute[count] = newMinute;
            count++;
            return true;
        }

        private void take(Stones others) {
            count = 0;
            for (int s = 0; s < others.count; s++) {
                add(others.man[s], others.minute[s]);
            }
        }
    }

    /** What was seen: who stood, or did not, as a minute ended. */
    private static final class Readings {
        private final int[] man = new int[MOST_READINGS];
        private final int[] minute = new int[MOST_READINGS];
        private final boolean[] stood = new boolean[MOST_READINGS];
        private int count;

        private boolean add(int m, int newMinute, boolean newStood) {
            if (count >= MOST_READINGS) {
                return false;
            }
            man[count] = m;
            minute[count] = newMinute;
            stood[count] = newStood;
            count++;
            return true;
        }

        /** Whether all are so in a fight that ran till noon. */
        private boolean areSo(Fight seen) {
            for (int r = 0; r < count; r++) {
                if ((seen.fellIn[man[r]] > minute[r]) != stood[r]) {
                    return false;
                }
            }
            return true;
        }
    }

    /** One run of minutes; its rows are used again by the next run. */
    private static final class Fight {
        private final int[] foeOf = new int[SEATS];
        private final int[] armourOf = new int[SEATS];
        private final int[] fellIn = new int[SEATS];
        private final int[] strikers = new int[SEATS];
        private Host men;
        private int lawThen;
        private int standing;

        /** Runs up to the end of the last minute, without the absent one: who stands then. */
        private int run(Host who, Stones thrown, int newLaw, int last, int absent) {
            men = who;
            lawThen = newLaw;
            begin(absent);
            for (int minute = 0; minute <= last; minute++) {
                turnByStones(thrown, minute);
                if (someoneFights()) {
                    strike();
                    fall(minute);
                    turnOnStrikers();
                }
            }
            return standing;
        }

        private boolean someoneFights() {
            for (int m = 0; m < men.count; m++) {
                if (foeOf[m] != NONE) {
                    return true;
                }
            }
            return false;
        }

        private void begin(int absent) {
            standing = 0;
            for (int m = 0; m < men.count; m++) {
                foeOf[m] = NONE;
                armourOf[m] = men.shield[m];
                fellIn[m] = NOON;
                if (m != absent) {
                    standing |= 1 << m;
                }
            }
        }

        private void turnByStones(Stones thrown, int minute) {
            for (int s = 0; s < thrown.count; s++) {
                int m = thrown.man[s];
                if (thrown.minute[s] == minute && men.has(m) && isFree(m)) {
                    foeOf[m] = foeByLaw(m);
                }
            }
        }

        private boolean isFree(int m) {
            return isIn(standing, m) && foeOf[m] == NONE;
        }

        private int foeByLaw(int m) {
            int chosen = NONE;
            if (lawThen != LAW_ANY) {
                chosen = nearest(m, true);
            }
            if (chosen == NONE && lawThen != LAW_OTHER_ALONE) {
                chosen = nearest(m, false);
            }
            return chosen;
        }

        private int nearest(int m, boolean otherDragonAlone) {
            int best = NONE;
            int bestFar = men.reachOf(m) + 1;
            for (int o = 0; o < men.count; o++) {
                boolean meant = !otherDragonAlone || men.dragon[o] != men.dragon[m];
                if (o != m && meant && isIn(standing, o) && men.between(m, o) < bestFar) {
                    best = o;
                    bestFar = men.between(m, o);
                }
            }
            return best;
        }

        private void strike() {
            for (int m = 0; m < men.count; m++) {
                strikers[m] = 0;
            }
            for (int m = 0; m < men.count; m++) {
                int f = foeOf[m];
                if (men.has(f)) {
                    armourOf[f] -= men.blowOf(m);
                    strikers[f] |= 1 << m;
                }
            }
        }

        private void fall(int minute) {
            for (int m = 0; m < men.count; m++) {
                if (isIn(standing, m) && armourOf[m] <= 0) {
                    standing &= ~(1 << m);
                    fellIn[m] = minute;
                    foeOf[m] = NONE;
                }
            }
            for (int m = 0; m < men.count; m++) {
                if (men.has(foeOf[m]) && !isIn(standing, foeOf[m])) {
                    foeOf[m] = NONE;
                }
            }
        }

        private void turnOnStrikers() {
            for (int m = 0; m < men.count; m++) {
                if (isFree(m)) {
                    foeOf[m] = leastInReach(m, strikers[m] & standing);
                }
            }
        }

        private int leastInReach(int m, int among) {
            for (int o = 0; o < men.count; o++) {
                if (isIn(among, o) && men.between(m, o) <= men.reachOf(m)) {
                    return o;
                }
            }
            return NONE;
        }
    }
}
