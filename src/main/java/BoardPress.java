/**
 * The press of a capital without paper: men walk round between two planks, readers at corners read
 * their fronts and their backs. The document is ../shared/DOC.md; words in capitals are its terms.
 */
public final class BoardPress {
    public static final int BAD = -1, STATE = -2, FULL = -3, NONE = -4;

    private static final int CORNERS = 8, MINUTES = 60, LAST_MINUTE = 59, NEWS = 10, KINDS = 4;
    private static final int MOST_MEN = 4, MOST_STREETS = 9, MOST_READERS = 4, MOST_OF_WALK = 4;
    private static final int TAPE_ROOM = 160, MOST_SEEN = 6, IMAGES = 2;
    private static final int SHEETS = 4, LANES = 3, MOST_CELLS = 40, MOST_READ = 20;

    private static final int PLAIN = 0, THIN = 1, STOUT = 2, OLD = 3;
    private static final int PLAIN_PACE = 2, THIN_PACE = PLAIN_PACE / 2;
    private static final int STOUT_PACE = PLAIN_PACE + 1, OLD_PACE = 2 * STOUT_PACE;

    private static final int FRONT = 0, BACK = 1;
    private static final int EVERY_MAN = (1 << MOST_MEN) - 1;
    /** A row of MINUTES is a long: bit 0 is MINUTE 0, bit 59 is MINUTE 59. */
    private static final long DAY = (1L << MINUTES) - 1;

    private static final int NO_FAULT = 0;
    private static final int NO_TOKEN = 1, MISPLACED = 2, OUT_OF_BOUNDS = 3;
    private static final int RAIN_AGAIN = 4, TOO_MANY = 5, NO_STREET = 6;
    private static final int NULL = 1, INDEX = 2, CAST = 3, SIZE = 4;
    /** What a FAULT, its place, and a stand that is refused are told from. */
    private static final int FAULT_BASE = -10, REFUSED_BASE = -20;

    private static final int TENTHS = 10;
    private static final int SEED_FACTOR = 1103515245, SEED_STEP = 12345;
    private static final int MOST_DAYS = 60, SHOWER = 10;
    /** Below each worth that is offered: PAIRS, NEWS, KINDS are 40 at most, below 0 too. */
    private static final int NO_FLOOR = -1000;

    private final TextReader textReader = new TextReader();
    private final Town town = new Town();
    /** Where changes are tried, so that what there is stays as it is. */
    private final Town trial = new Town();
    private final Town[] images = new Town[IMAGES];
    private final boolean[] kept = new boolean[IMAGES];
    private final Memory memory = new Memory();
    private final Sheet[] sheets = new Sheet[SHEETS];
    private final Reader guest = new Reader();
    private final Pick pick = new Pick();
    private final int[] knownBy = new int[KINDS];
    private int readFault = NO_FAULT;

    public BoardPress() {
        for (int k = 0; k < IMAGES; k++) {
            images[k] = new Town();
        }
        for (int k = 0; k < SHEETS; k++) {
            sheets[k] = new Sheet();
        }
    }

    // ---- the text, what there is

    public int feed(int c) {
        if (!isWithin(c, 0, 127)) {
            return BAD;
        }
        return textReader.tape.append(c) ? textReader.tape.length : FULL;
    }

    public int end(int n) {
        int had = textReader.tape.length;
        if (!isWithin(n, 0, had)) {
            return BAD;
        }
        textReader.tape.length = n;
        return had;
    }

    public int text() {
        int lines = textReader.readAll();
        textReader.tape.length = 0;
        if (lines == NONE) {
            return FAULT_BASE - textReader.faultPlace;
        }
        town.copyFrom(textReader.draft);
        memory.size = 0;
        for (int k = 0; k < IMAGES; k++) {
            kept[k] = false;
        }
        return lines;
    }

    public int fault() {
        return textReader.fault;
    }

    public int rule(int what) {
        switch (what) {
            case 0: return town.manCount;
            case 1: return town.streetCount;
            case 2: return town.readerCount;
            case 3: return town.rainFrom;
            case 4: return town.rainFor;
            case 5: return town.pairs(EVERY_MAN);
            default: return BAD;
        }
    }

    public int man(int m, int what) {
        Man man = town.manAt(m);
        if (man == null) {
            return BAD;
        }
        switch (what) {
            case 0: return man.kind;
            case 1: return man.news;
            case 2: return man.pace();
            case 3: return man.corners;
            case 4: return Long.bitCount(repeated(1, man.pace()));
            default: return BAD;
        }
    }

    public int walk(int m, int i) {
        Man man = town.manAt(m);
        return man == null || !man.hasPlace(i) ? BAD : man.path[i];
    }

    public int street(int i, int what) {
        if (!isWithin(i, 0, town.streetCount - 1) || !isEither(what)) {
            return BAD;
        }
        return what == 0 ? town.streetFrom[i] : town.streetTo[i];
    }

    public int reader(int r, int what) {
        Reader reader = town.readerAt(r);
        if (reader == null) {
            return BAD;
        }
        switch (what) {
            case 0: return reader.corner;
            case 1: return reader.from;
            case 2: return reader.until;
            default: return BAD;
        }
    }

    // ---- what is changed

    public int alter(int m, int what, int v) {
        Man man = town.manAt(m);
        if (man == null) {
            return BAD;
        }
        if (what == 0 && isWithin(v, 0, KINDS - 1)) {
            int was = man.kind;
            man.kind = v;
            return was;
        }
        if (what == 1 && isNews(v)) {
            int was = man.news;
            man.news = v;
            return was;
        }
        return BAD;
    }

    public int detour(int m, int i, int c) {
        Man man = town.manAt(m);
        if (man == null || !man.hasPlace(i) || !isCorner(c)) {
            return BAD;
        }
        int was = man.path[i];
        man.path[i] = c;
        if (!town.canWalk(man)) {
            man.path[i] = was;
            return STATE;
        }
        return was;
    }

    public int shift(int m, int i) {
        Man man = town.manAt(m);
        if (man == null || !man.hasPlace(i)) {
            return BAD;
        }
        int was = man.path[0];
        man.turnTo(i);
        return was;
    }

    public int stand(int r, int what, int v) {
        Reader reader = town.readerAt(r);
        if (reader == null) {
            return BAD;
        }
        switch (what) {
            case 0: return isCorner(v) ? reader.setCorner(v) : BAD;
            case 1: return isWithin(v, 0, reader.until) ? reader.setFrom(v) : BAD;
            case 2: return isWithin(v, reader.from, LAST_MINUTE) ? reader.setUntil(v) : BAD;
            default: return BAD;
        }
    }

    public int rain(int a, int n) {
        if (!isMinute(a) || !isMinute(n)) {
            return BAD;
        }
        int was = town.rainFrom;
        town.setRain(a, n);
        return was;
    }

    public int pave(int a, int b) {
        if (!isCorner(a) || !isCorner(b) || a == b) {
            return BAD;
        }
        return town.addStreet(a, b) ? town.streetCount : FULL;
    }

    // ---- the day

    public int at(int m, int minute) {
        Man man = town.manAt(m);
        return man == null || !isMinute(minute) ? BAD : man.cornerIn(minute);
    }

    public int reads(int r, int minute, int what) {
        Reader reader = town.readerAt(r);
        if (reader == null || !isMinute(minute) || !isEither(what)) {
            return BAD;
        }
        return town.menRead(reader, minute, what);
    }

    public int knows(int r, int minute, int what) {
        Reader reader = town.readerAt(r);
        if (reader == null || !isMinute(minute)) {
            return BAD;
        }
        long minutes = span(0, minute);
        switch (what) {
            case 0: return town.newsRead(reader, FRONT, minutes, EVERY_MAN);
            case 1: return town.newsRead(reader, BACK, minutes, EVERY_MAN);
            case 2: return town.wholeNews(reader, minutes, EVERY_MAN);
            default: return BAD;
        }
    }

    public int first(int r, int n) {
        Reader reader = town.readerAt(r);
        return reader == null || !isNews(n) ? BAD : town.firstWhole(reader, n);
    }

    public int all(int n) {
        if (!isNews(n)) {
            return BAD;
        }
        int readers = 0;
        for (int r = 0; r < town.readerCount; r++) {
            if (town.firstWhole(town.readers[r], n) != NONE) {
                readers |= 1 << r;
            }
        }
        return readers;
    }

    public int meet(int m, int q) {
        Man one = town.manAt(m);
        Man other = town.manAt(q);
        if (one == null || other == null || m == q) {
            return BAD;
        }
        for (int minute = 0; minute < MINUTES; minute++) {
            int corner = one.cornerIn(minute);
            if (corner != NONE && corner == other.cornerIn(minute)) {
                return minute;
            }
        }
        return NONE;
    }

    // ---- what is best

    public int best(int r, int what) {
        Reader reader = town.readerAt(r);
        if (reader == null || !isEither(what)) {
            return BAD;
        }
        guest.copyFrom(reader);
        pick.restart(NO_FLOOR);
        for (int corner = 0; corner < CORNERS; corner++) {
            guest.corner = corner;
            pick.offer(corner, Integer.bitCount(town.wholeNews(guest, DAY, EVERY_MAN)));
        }
        return pick.told(what);
    }

    public int late(int r, int n) {
        Reader reader = town.readerAt(r);
        if (reader == null || !isNews(n)) {
            return BAD;
        }
        guest.copyFrom(reader);
        guest.from = 0;
        int front = lastMinute(town.minutesRead(guest, FRONT, n));
        int back = lastMinute(town.minutesRead(guest, BACK, n));
        return front == NONE || back == NONE ? NONE : Math.min(front, back);
    }

    public int soon(int r, int n) {
        Reader reader = town.readerAt(r);
        if (reader == null || !isNews(n)) {
            return BAD;
        }
        guest.copyFrom(reader);
        guest.until = LAST_MINUTE;
        return town.firstWhole(guest, n);
    }

    public int begin(int m, int what) {
        trial.copyFrom(town);
        Man man = trial.manAt(m);
        if (man == null || !isEither(what)) {
            return BAD;
        }
        pick.restart(NO_FLOOR);
        for (int i = 0; i < man.corners; i++) {
            pick.offer(i, trial.pairs(EVERY_MAN));
            man.turnTo(1);
        }
        return pick.told(what);
    }

    public int kind(int m, int what) {
        trial.copyFrom(town);
        Man man = trial.manAt(m);
        if (man == null || !isEither(what)) {
            return BAD;
        }
        pick.restart(NO_FLOOR);
        for (int kind = 0; kind < KINDS; kind++) {
            man.kind = kind;
            pick.offer(kind, trial.pairs(EVERY_MAN));
        }
        return pick.told(what);
    }

    public int swap(int what) {
        if (!isEither(what)) {
            return BAD;
        }
        trial.copyFrom(town);
        pick.restart(town.pairs(EVERY_MAN));
        for (int m = 0; m < trial.manCount; m++) {
            for (int q = m + 1; q < trial.manCount; q++) {
                trial.changePlanks(m, q);
                pick.offer(10 * m + q, trial.pairs(EVERY_MAN));
                trial.changePlanks(m, q);
            }
        }
        return pick.told(what);
    }

    public int spoil(int n, int what) {
        if (!isWithin(n, 1, LAST_MINUTE) || !isEither(what)) {
            return BAD;
        }
        trial.copyFrom(town);
        pick.restart(NO_FLOOR);
        for (int minute = 0; minute < MINUTES; minute++) {
            trial.setRain(minute, n);
            pick.offer(minute, -trial.pairs(EVERY_MAN));
        }
        return pick.toldOfFewest(what);
    }

    // ---- men who stay at home

    public long luck(int v, int r, int n, int what) {
        Reader reader = town.readerAt(r);
        if (!isWithin(v, 0, TENTHS) || reader == null || !isNews(n) || !isEither(what)) {
            return BAD;
        }
        long sum = 0;
        for (int out = 0; out < 1 << town.manCount; out++) {
            sum += town.weight(v, out) * (town.wholeNews(reader, DAY, out) >> n & 1);
        }
        return partOfFraction(sum, town.weightOfAll(), what);
    }

    public long mean(int v, int what) {
        if (!isWithin(v, 0, TENTHS) || !isEither(what)) {
            return BAD;
        }
        long sum = 0;
        for (int out = 0; out < 1 << town.manCount; out++) {
            sum += town.weight(v, out) * town.pairs(out);
        }
        return partOfFraction(sum, town.weightOfAll(), what);
    }

    // ---- who it was, what it said

    public int see(int r, int n, int minute, boolean is) {
        if (town.readerAt(r) == null || !isNews(n) || !isMinute(minute)) {
            return BAD;
        }
        return memory.add(r, n, minute, is) ? memory.size : FULL;
    }

    public int forget(int n) {
        if (!isWithin(n, 0, memory.size)) {
            return BAD;
        }
        int were = memory.size;
        memory.size = n;
        return were;
    }

    public int kinds(int m) {
        return town.manAt(m) == null ? BAD : possibleKinds(m);
    }

    public int news(int m) {
        trial.copyFrom(town);
        Man man = trial.manAt(m);
        if (man == null) {
            return BAD;
        }
        int possible = 0;
        for (int news = 0; news < NEWS; news++) {
            man.news = news;
            if (memory.agreesWith(trial)) {
                possible |= 1 << news;
            }
        }
        return possible;
    }

    public int ask(int m, int what) {
        if (town.manAt(m) == null || !isEither(what)) {
            return BAD;
        }
        int possible = possibleKinds(m);
        int now = Integer.bitCount(possible);
        pick.restart(-now);
        for (int r = 0; r < town.readerCount; r++) {
            noteWhenKnown(m, r);
            for (int minute = 0; minute < MINUTES; minute++) {
                int yes = kindsKnownBy(possible, minute);
                pick.offer(100 * r + minute, -Math.max(yes, now - yes));
            }
        }
        return pick.toldOfFewest(what);
    }

    // ---- by a seed

    public int drift(int seed, int n, int what) {
        if (!isWithin(n, 1, MOST_DAYS) || !isEither(what)) {
            return BAD;
        }
        if (town.manCount < 1) {
            return STATE;
        }
        trial.copyFrom(town);
        int sum = 0;
        int last = 0;
        for (int day = 0; day < n; day++) {
            seed = seed * SEED_FACTOR + SEED_STEP;
            trial.driftBy(seed >>> 16 & 0x7fff);
            last = trial.pairs(EVERY_MAN);
            sum += last;
        }
        return what == 0 ? sum : last;
    }

    // ---- images, sheets

    public int keep(int k) {
        if (!isWithin(k, 0, IMAGES - 1)) {
            return BAD;
        }
        int was = kept[k] ? 1 : 0;
        images[k].copyFrom(town);
        kept[k] = true;
        return was;
    }

    public int back(int k) {
        if (!isWithin(k, 0, IMAGES - 1)) {
            return BAD;
        }
        if (!kept[k]) {
            return STATE;
        }
        town.copyFrom(images[k]);
        return town.pairs(EVERY_MAN);
    }

    public int sheet(int k, int lane, int n) {
        if (!isSheet(k) || !isLane(lane) || n > MOST_CELLS) {
            return BAD;
        }
        if (n < 0) {
            return FAULT_BASE - SIZE;
        }
        sheets[k].renew(lane, n);
        return 1;
    }

    public int lay(int k, int i, int v) {
        if (!isSheet(k)) {
            return BAD;
        }
        Sheet sheet = sheets[k];
        int fault = sheet.faultAt(sheet.lane, i);
        if (fault != NO_FAULT) {
            return FAULT_BASE - fault;
        }
        sheet.put(i, v);
        return 1;
    }

    public int read(int k, int lane, int f, int n) {
        if (!isSheet(k) || !isLane(lane) || !isWithin(n, 0, MOST_READ)) {
            return BAD;
        }
        Sheet sheet = sheets[k];
        int fault = NO_FAULT;
        int whole = 0;
        for (int i = 0; i < n && fault == NO_FAULT; i++) {
            fault = sheet.faultOfPair(lane, f + 2 * i);
            if (fault == NO_FAULT && !canStand(sheet, f + 2 * i)) {
                return REFUSED_BASE - i;
            }
            if (fault == NO_FAULT) {
                whole++;
            }
        }
        for (int i = 0; i < whole; i++) {
            stand(sheet.cellAt(f + 2 * i), 0, sheet.cellAt(f + 2 * i + 1));
        }
        readFault = fault;
        return whole;
    }

    public int torn() {
        return readFault;
    }

    public int count(int what) {
        switch (what) {
            case 0: return memory.size;
            case 1: return (kept[0] ? 1 : 0) + (kept[1] ? 1 : 0);
            case 2: return textReader.tape.length;
            case 3: return sheets[0].lane == NONE ? NONE : sheets[0].cells;
            case 4: return town.cornersOfAllWalks();
            case 5: return town.minutesOfAllReaders();
            default: return BAD;
        }
    }

    // ---- what the calls share

    private int possibleKinds(int m) {
        trial.copyFrom(town);
        Man man = trial.manAt(m);
        int possible = 0;
        for (int kind = 0; man != null && kind < KINDS; kind++) {
            man.kind = kind;
            if (memory.agreesWith(trial)) {
                possible |= 1 << kind;
            }
        }
        return possible;
    }

    /** One look a KIND tells of all MINUTES, so ask() need not look at each MINUTE anew. */
    private void noteWhenKnown(int m, int r) {
        trial.copyFrom(town);
        Man man = trial.manAt(m);
        Reader reader = trial.readerAt(r);
        for (int kind = 0; man != null && reader != null && kind < KINDS; kind++) {
            man.kind = kind;
            knownBy[kind] = trial.firstWhole(reader, man.news);
        }
    }

    private int kindsKnownBy(int possible, int minute) {
        int known = 0;
        for (int kind = 0; kind < KINDS; kind++) {
            if ((possible >> kind & 1) == 1 && isWithin(knownBy[kind], 0, minute)) {
                known++;
            }
        }
        return known;
    }

    private boolean canStand(Sheet sheet, int i) {
        return town.readerAt(sheet.cellAt(i)) != null && isCorner(sheet.cellAt(i + 1));
    }

    private static boolean isWithin(int v, int least, int most) {
        return v >= least && v <= most;
    }

    private static boolean isCorner(int v) {
        return isWithin(v, 0, CORNERS - 1);
    }

    private static boolean isMinute(int v) {
        return isWithin(v, 0, LAST_MINUTE);
    }

    private static boolean isNews(int v) {
        return isWithin(v, 0, NEWS - 1);
    }

    private static boolean isEither(int what) {
        return what == 0 || what == 1;
    }

    private static boolean isSheet(int k) {
        return isWithin(k, 0, SHEETS - 1);
    }

    private static boolean isLane(int lane) {
        return isWithin(lane, 0, LANES - 1);
    }

    /** The MINUTES from one until another, that one too. */
    private static long span(int from, int until) {
        return (DAY << from) & (DAY >>> (LAST_MINUTE - until));
    }

    /** These MINUTES and all that are whole periods behind them; each turn doubles the periods. */
    private static long repeated(long minutes, int period) {
        for (int reach = period; reach > 0 && reach < MINUTES; reach *= 2) {
            minutes |= minutes << reach;
        }
        return minutes & DAY;
    }

    private static int firstMinute(long minutes) {
        for (int minute = 0; minute < MINUTES; minute++) {
            if ((minutes >> minute & 1) == 1) {
                return minute;
            }
        }
        return NONE;
    }

    private static int lastMinute(long minutes) {
        for (int minute = LAST_MINUTE; minute >= 0; minute--) {
            if ((minutes >> minute & 1) == 1) {
                return minute;
            }
        }
        return NONE;
    }

    private static long partOfFraction(long numerator, long denominator, int what) {
        long divisor = greatestDivisor(numerator, denominator);
        long part = what == 0 ? numerator : denominator;
        return divisor == 0 ? part : part / divisor;
    }

    /** The bound is far above the turns that two longs can need. */
    private static long greatestDivisor(long a, long b) {
        for (int turn = 0; turn < 200 && b != 0; turn++) {
            long rest = a % b;
            a = b;
            b = rest;
        }
        return a;
    }

    /** The first of the choices offered that is worth most, if it is worth more than the floor. */
    private static final class Pick {
        private int choice = NONE;
        private int worth;

        Pick() {
        }

        void restart(int floor) {
            choice = NONE;
            worth = floor;
        }

        void offer(int offered, int itsWorth) {
            if (itsWorth > worth) {
                choice = offered;
                worth = itsWorth;
            }
        }

        int told(int what) {
            return choice == NONE || what == 0 ? choice : worth;
        }

        /** Where fewest are wanted, the worth offered is how many they are, below 0. */
        int toldOfFewest(int what) {
            return choice == NONE || what == 0 ? choice : -worth;
        }
    }

    private static final class Man {
        int kind;
        int news;
        int corners;
        final int[] path = new int[MOST_OF_WALK];

        Man() {
        }

        void copyFrom(Man other) {
            kind = other.kind;
            news = other.news;
            corners = other.corners;
            for (int i = 0; i < corners; i++) {
                path[i] = other.path[i];
            }
        }

        boolean hasPlace(int i) {
            return i >= 0 && i < corners;
        }

        boolean addCorner(int corner) {
            if (corners >= MOST_OF_WALK) {
                return false;
            }
            path[corners] = corner;
            corners++;
            return true;
        }

        int pace() {
            switch (kind) {
                case THIN: return THIN_PACE;
                case STOUT: return STOUT_PACE;
                case OLD: return OLD_PACE;
                default: return PLAIN_PACE;
            }
        }

        int cornerIn(int minute) {
            int pace = pace();
            if (corners < 1 || minute % pace != 0) {
                return NONE;
            }
            return path[minute / pace % corners];
        }

        /** MINUTES in which those at that CORNER can see his FRONT or his BACK, were it dry. */
        long minutesShown(int corner, int side) {
            if (side == BACK && corners < 2) {
                return 0;
            }
            int pace = pace();
            int stepsBehind = side == BACK ? 1 : 0;
            long firstRound = 0;
            for (int i = 0; i < corners; i++) {
                if (path[i] == corner) {
                    firstRound |= 1L << (pace * (i + stepsBehind));
                }
            }
            return firstRound == 0 ? 0 : repeated(firstRound, pace * corners);
        }

        void turnTo(int i) {
            for (int step = 0; step < i; step++) {
                turnByOne();
            }
        }

        private void turnByOne() {
            int first = path[0];
            for (int i = 1; i < corners; i++) {
                path[i - 1] = path[i];
                path[i] = first;
            }
        }
    }

    private static final class Reader {
        int corner;
        int from;
        int until;

        Reader() {
        }

        void copyFrom(Reader other) {
            corner = other.corner;
            from = other.from;
            until = other.until;
        }

        int setCorner(int v) {
            int was = corner;
            corner = v;
            return was;
        }

        int setFrom(int v) {
            int was = from;
            from = v;
            return was;
        }

        int setUntil(int v) {
            int was = until;
            until = v;
            return was;
        }
    }

    /** MEN, STREETS, READERS, RAIN, and the day that comes of them. */
    private static final class Town {
        int manCount;
        int streetCount;
        int readerCount;
        int rainFrom;
        int rainFor;
        final Man[] men = new Man[MOST_MEN];
        final Reader[] readers = new Reader[MOST_READERS];
        final int[] streetFrom = new int[MOST_STREETS];
        final int[] streetTo = new int[MOST_STREETS];

        Town() {
            for (int m = 0; m < MOST_MEN; m++) {
                men[m] = new Man();
            }
            for (int r = 0; r < MOST_READERS; r++) {
                readers[r] = new Reader();
            }
        }

        void clear() {
            manCount = 0;
            streetCount = 0;
            readerCount = 0;
            setRain(0, 0);
        }

        void copyFrom(Town other) {
            manCount = other.manCount;
            streetCount = other.streetCount;
            readerCount = other.readerCount;
            setRain(other.rainFrom, other.rainFor);
            for (int m = 0; m < manCount; m++) {
                men[m].copyFrom(other.men[m]);
            }
            for (int r = 0; r < readerCount; r++) {
                readers[r].copyFrom(other.readers[r]);
            }
            for (int i = 0; i < streetCount; i++) {
                streetFrom[i] = other.streetFrom[i];
                streetTo[i] = other.streetTo[i];
            }
        }

        Man manAt(int m) {
            return m >= 0 && m < manCount ? men[m] : null;
        }

        Reader readerAt(int r) {
            return r >= 0 && r < readerCount ? readers[r] : null;
        }

        /** A MAN more, still without a WALK; null if there are four. */
        Man addMan(int kind) {
            if (manCount >= MOST_MEN) {
                return null;
            }
            Man man = men[manCount];
            man.kind = kind;
            man.corners = 0;
            manCount++;
            return man;
        }

        Reader addReader() {
            if (readerCount >= MOST_READERS) {
                return null;
            }
            readerCount++;
            return readers[readerCount - 1];
        }

        boolean addStreet(int a, int b) {
            if (streetCount >= MOST_STREETS) {
                return false;
            }
            streetFrom[streetCount] = a;
            streetTo[streetCount] = b;
            streetCount++;
            return true;
        }

        void setRain(int from, int howMany) {
            rainFrom = from;
            rainFor = howMany;
        }

        private boolean hasStreet(int a, int b) {
            for (int i = 0; i < streetCount; i++) {
                if (streetFrom[i] == a && streetTo[i] == b || streetFrom[i] == b && streetTo[i] == a) {
                    return true;
                }
            }
            return false;
        }

        boolean canWalk(Man man) {
            for (int i = 0; man.corners > 1 && i < man.corners; i++) {
                int next = i + 1 < man.corners ? i + 1 : 0;
                if (!hasStreet(man.path[i], man.path[next])) {
                    return false;
                }
            }
            return true;
        }

        boolean canAllWalk() {
            for (int m = 0; m < manCount; m++) {
                if (!canWalk(men[m])) {
                    return false;
                }
            }
            return true;
        }

        /** MINUTES in which a READER is there and can read. */
        private long minutesOf(Reader reader) {
            long wet = ((1L << rainFor) - 1) << rainFrom;
            return span(reader.from, reader.until) & ~wet;
        }

        int menRead(Reader reader, int minute, int side) {
            long minutes = minutesOf(reader) & span(minute, minute);
            int read = 0;
            for (int m = 0; m < manCount; m++) {
                if ((men[m].minutesShown(reader.corner, side) & minutes) != 0) {
                    read |= 1 << m;
                }
            }
            return read;
        }

        /** NEWS (bits) of which a READER reads that side within these MINUTES, if but the MEN out walk. */
        int newsRead(Reader reader, int side, long within, int out) {
            long minutes = minutesOf(reader) & within;
            int read = 0;
            for (int m = 0; m < manCount; m++) {
                boolean walks = (out >> m & 1) == 1;
                if (walks && (men[m].minutesShown(reader.corner, side) & minutes) != 0) {
                    read |= 1 << men[m].news;
                }
            }
            return read;
        }

        int wholeNews(Reader reader, long within, int out) {
            return newsRead(reader, FRONT, within, out) & newsRead(reader, BACK, within, out);
        }

        int pairs(int out) {
            int pairs = 0;
            for (int r = 0; r < readerCount; r++) {
                pairs += Integer.bitCount(wholeNews(readers[r], DAY, out));
            }
            return pairs;
        }

        /** MINUTES in which a READER reads that side of a NEWS. */
        long minutesRead(Reader reader, int side, int news) {
            long minutes = 0;
            for (int m = 0; m < manCount; m++) {
                if (men[m].news == news) {
                    minutes |= men[m].minutesShown(reader.corner, side);
                }
            }
            return minutes & minutesOf(reader);
        }

        int firstWhole(Reader reader, int news) {
            int front = firstMinute(minutesRead(reader, FRONT, news));
            int back = firstMinute(minutesRead(reader, BACK, news));
            return front == NONE || back == NONE ? NONE : Math.max(front, back);
        }

        void changePlanks(int m, int q) {
            Man one = manAt(m);
            Man other = manAt(q);
            if (one != null && other != null) {
                int news = one.news;
                one.news = other.news;
                other.news = news;
            }
        }

        /** How many of weightOfAll() days the MEN out, and no others, walk. */
        long weight(int homeTenths, int out) {
            long weight = 1;
            for (int m = 0; m < manCount; m++) {
                weight *= (out >> m & 1) == 1 ? TENTHS - homeTenths : homeTenths;
            }
            return weight;
        }

        long weightOfAll() {
            long weight = 1;
            for (int m = 0; m < manCount; m++) {
                weight *= TENTHS;
            }
            return weight;
        }

        /** A day's change; got is not below 0. */
        void driftBy(int got) {
            Man man = manCount < 1 ? null : manAt(got % manCount);
            if (man != null && man.corners > 0) {
                man.turnTo(got / 4 % man.corners);
            }
            setRain(got / 16 % MINUTES, SHOWER);
        }

        int cornersOfAllWalks() {
            int corners = 0;
            for (int m = 0; m < manCount; m++) {
                corners += men[m].corners;
            }
            return corners;
        }

        int minutesOfAllReaders() {
            int minutes = 0;
            for (int r = 0; r < readerCount; r++) {
                minutes += readers[r].until - readers[r].from + 1;
            }
            return minutes;
        }
    }

    /** What is SEEN. */
    private static final class Memory {
        int size;
        private final int[] readers = new int[MOST_SEEN];
        private final int[] news = new int[MOST_SEEN];
        private final int[] minutes = new int[MOST_SEEN];
        private final boolean[] known = new boolean[MOST_SEEN];

        Memory() {
        }

        boolean add(int reader, int itsNews, int minute, boolean is) {
            if (size >= MOST_SEEN) {
                return false;
            }
            readers[size] = reader;
            news[size] = itsNews;
            minutes[size] = minute;
            known[size] = is;
            size++;
            return true;
        }

        boolean agreesWith(Town town) {
            for (int i = 0; i < size; i++) {
                Reader reader = town.readerAt(readers[i]);
                if (reader == null) {
                    return false;
                }
                int whole = town.wholeNews(reader, span(0, minutes[i]), EVERY_MAN);
                boolean knows = (whole >> news[i] & 1) == 1;
                if (knows != known[i]) {
                    return false;
                }
            }
            return true;
        }
    }

    /** A SHEET; its CELLS hold what its lane can hold, so one row serves all lanes. */
    private static final class Sheet {
        int lane = NONE;
        int cells;
        private final int[] row = new int[MOST_CELLS];

        Sheet() {
        }

        void renew(int newLane, int howMany) {
            lane = newLane;
            cells = howMany;
            for (int i = 0; i < MOST_CELLS; i++) {
                row[i] = 0;
            }
        }

        int faultAt(int takenAs, int i) {
            if (lane == NONE) {
                return NULL;
            }
            if (lane != takenAs) {
                return CAST;
            }
            return hasCell(i) ? NO_FAULT : INDEX;
        }

        int faultOfPair(int takenAs, int i) {
            int fault = faultAt(takenAs, i);
            return fault == NO_FAULT ? faultAt(takenAs, i + 1) : fault;
        }

        private boolean hasCell(int i) {
            return i >= 0 && i < cells;
        }

        int cellAt(int i) {
            return hasCell(i) ? row[i] : NONE;
        }

        void put(int i, int v) {
            if (hasCell(i)) {
                row[i] = lane == 0 ? (byte) v : lane == 1 ? (short) v : v;
            }
        }
    }

    private static final class Tape {
        int length;
        private final byte[] bytes = new byte[TAPE_ROOM];

        Tape() {
        }

        boolean append(int c) {
            if (length >= TAPE_ROOM) {
                return false;
            }
            bytes[length] = (byte) c;
            length++;
            return true;
        }

        /** NONE behind the last byte. */
        int byteAt(int place) {
            return place >= 0 && place < length ? bytes[place] : NONE;
        }
    }

    /** Reads THE TAPE into a draft, TOKEN by TOKEN; the first FAULT met ends it. */
    private static final class TextReader {
        private static final int END = 0, NAME = 1, NUMBER = 2, SEMICOLON = 3;
        private static final int MOST_FIGURES = 2;
        /** Lines that tell no MAN; one that tells a MAN is his KIND. */
        private static final int STREET_LINE = 4, READER_LINE = 5, RAIN_LINE = 6;

        final Tape tape = new Tape();
        /** Apart from what there is, so that a text that is refused changes nothing. */
        final Town draft = new Town();
        private int next;
        private int token;
        private int tokenPlace;
        private int value;
        private boolean rained;
        int fault = NO_FAULT;
        int faultPlace;

        TextReader() {
        }

        /** How many lines there are; NONE: there is a FAULT. */
        int readAll() {
            fault = NO_FAULT;
            next = 0;
            rained = false;
            draft.clear();
            int lines = 0;
            boolean taken = readToken();
            while (taken && token != END && lines < TAPE_ROOM) {
                lines++;
                taken = readLine() && readToken();
            }
            if (taken && !draft.canAllWalk()) {
                taken = refuse(NO_STREET, tape.length);
            }
            return taken ? lines : NONE;
        }

        /** Always false, so that a reader can refuse and return at once. */
        private boolean refuse(int itsFault, int place) {
            fault = itsFault;
            faultPlace = place;
            return false;
        }

        private boolean readLine() {
            if (token != NAME) {
                return refuse(MISPLACED, tokenPlace);
            }
            int line = lineNamed();
            switch (line) {
                case PLAIN: case THIN: case STOUT: case OLD: return readMan(line);
                case STREET_LINE: return readStreet();
                case READER_LINE: return readReader();
                case RAIN_LINE: return readRain();
                default: return refuse(MISPLACED, tokenPlace);
            }
        }

        private boolean readMan(int kind) {
            Man man = draft.addMan(kind);
            if (man == null) {
                return refuse(TOO_MANY, tokenPlace);
            }
            if (!takeNumber(0, NEWS - 1)) {
                return false;
            }
            man.news = value;
            if (!takeNumber(0, CORNERS - 1)) {
                return false;
            }
            man.addCorner(value);
            return readRestOfWalk(man);
        }

        private boolean readRestOfWalk(Man man) {
            for (int i = 1; i <= MOST_OF_WALK; i++) {
                if (!readToken()) {
                    return false;
                }
                if (token == SEMICOLON) {
                    return true;
                }
                if (token != NUMBER) {
                    return refuse(MISPLACED, tokenPlace);
                }
                // A 5th one is a FAULT of its own, whether or not its number is a CORNER.
                if (!man.addCorner(value)) {
                    return refuse(TOO_MANY, tokenPlace);
                }
                if (!isCorner(value)) {
                    return refuse(OUT_OF_BOUNDS, tokenPlace);
                }
            }
            return false;
        }

        private boolean readStreet() {
            if (draft.streetCount >= MOST_STREETS) {
                return refuse(TOO_MANY, tokenPlace);
            }
            if (!takeNumber(0, CORNERS - 1)) {
                return false;
            }
            int first = value;
            if (!takeNumber(0, CORNERS - 1)) {
                return false;
            }
            if (value == first) {
                return refuse(OUT_OF_BOUNDS, tokenPlace);
            }
            draft.addStreet(first, value);
            return takeSemicolon();
        }

        private boolean readReader() {
            Reader reader = draft.addReader();
            if (reader == null) {
                return refuse(TOO_MANY, tokenPlace);
            }
            if (!takeNumber(0, CORNERS - 1)) {
                return false;
            }
            reader.corner = value;
            if (!takeNumber(0, LAST_MINUTE)) {
                return false;
            }
            reader.from = value;
            if (!takeNumber(reader.from, LAST_MINUTE)) {
                return false;
            }
            reader.until = value;
            return takeSemicolon();
        }

        private boolean readRain() {
            if (rained) {
                return refuse(RAIN_AGAIN, tokenPlace);
            }
            rained = true;
            if (!takeNumber(0, LAST_MINUTE)) {
                return false;
            }
            int from = value;
            if (!takeNumber(0, LAST_MINUTE)) {
                return false;
            }
            draft.setRain(from, value);
            return takeSemicolon();
        }

        private boolean takeNumber(int least, int most) {
            if (!readToken()) {
                return false;
            }
            if (token != NUMBER) {
                return refuse(MISPLACED, tokenPlace);
            }
            return isWithin(value, least, most) || refuse(OUT_OF_BOUNDS, tokenPlace);
        }

        private boolean takeSemicolon() {
            return readToken() && (token == SEMICOLON || refuse(MISPLACED, tokenPlace));
        }

        private boolean readToken() {
            while (next < tape.length && tape.byteAt(next) == ' ') {
                next++;
            }
            tokenPlace = next;
            int c = tape.byteAt(next);
            if (c == NONE) {
                token = END;
                return true;
            }
            if (c == ';') {
                token = SEMICOLON;
                next++;
                return true;
            }
            if (isLetter(c)) {
                token = NAME;
                while (next < tape.length && isLetter(tape.byteAt(next))) {
                    next++;
                }
                return true;
            }
            token = NUMBER;
            value = 0;
            while (next < tape.length && isFigure(tape.byteAt(next))) {
                value = 10 * value + tape.byteAt(next) - '0';
                next++;
            }
            int figures = next - tokenPlace;
            return isWithin(figures, 1, MOST_FIGURES) || refuse(NO_TOKEN, tokenPlace);
        }

        private int lineNamed() {
            if (isNamed("plain")) {
                return PLAIN;
            }
            if (isNamed("thin")) {
                return THIN;
            }
            if (isNamed("stout")) {
                return STOUT;
            }
            if (isNamed("old")) {
                return OLD;
            }
            if (isNamed("street")) {
                return STREET_LINE;
            }
            if (isNamed("reader")) {
                return READER_LINE;
            }
            return isNamed("rain") ? RAIN_LINE : NONE;
        }

        private boolean isNamed(String name) {
            if (next - tokenPlace != name.length()) {
                return false;
            }
            for (int i = 0; i < name.length(); i++) {
                if (tape.byteAt(tokenPlace + i) != name.charAt(i)) {
                    return false;
                }
            }
            return true;
        }

        private static boolean isLetter(int c) {
            return c >= 'a' && c <= 'z';
        }

        private static boolean isFigure(int c) {
            return c >= '0' && c <= '9';
        }
    }
}
