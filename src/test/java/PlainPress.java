import java.math.BigInteger;
import java.util.ArrayList;
import java.util.List;
import java.util.TreeSet;

/**
 * The document told a second time, in the plainest way: each day is walked minute by minute, each
 * change is tried on a copy, sheets are rows whose faults the machine finds. It shares no code with
 * BoardPress; ModelTest holds the one against the other.
 */
public final class PlainPress {
    static final int BAD = -1, STATE = -2, FULL = -3, NONE = -4;

    static final class Man {
        int kind, news;
        List<Integer> walk = new ArrayList<>();
    }

    static final class World {
        List<Man> men = new ArrayList<>();
        List<int[]> streets = new ArrayList<>();
        List<int[]> readers = new ArrayList<>();
        int rainFrom, rainFor;

        World copy() {
            World w = new World();
            for (Man m : men) {
                Man c = new Man();
                c.kind = m.kind;
                c.news = m.news;
                c.walk = new ArrayList<>(m.walk);
                w.men.add(c);
            }
            for (int[] s : streets) w.streets.add(s.clone());
            for (int[] r : readers) w.readers.add(r.clone());
            w.rainFrom = rainFrom;
            w.rainFor = rainFor;
            return w;
        }
    }

    record Seen(int r, int n, int minute, boolean is) { }

    private StringBuilder tape = new StringBuilder();
    private World world = new World();
    private int fault = 0, torn = 0;
    private List<Seen> seen = new ArrayList<>();
    private final World[] images = new World[2];
    private final Object[] sheets = new Object[4];

    // ---- the day, minute by minute

    static int pace(int kind) {
        return new int[] {2, 1, 3, 6}[kind];
    }

    /** [minute] is {corner he is at, corner he was at last}, -4 for none. */
    static int[][] course(Man man) {
        int[][] course = new int[60][2];
        int place = 0, wait = 0, last = NONE;
        for (int t = 0; t < 60; t++) {
            course[t][0] = NONE;
            course[t][1] = NONE;
            if (wait == 0) {
                int here = man.walk.get(place);
                course[t][0] = here;
                course[t][1] = man.walk.size() == 1 ? NONE : last;
                last = here;
                place = place + 1 == man.walk.size() ? 0 : place + 1;
                wait = pace(man.kind);
            }
            wait--;
        }
        return course;
    }

    static boolean reads(World w, int r, int t, int m, int side) {
        int[] reader = w.readers.get(r);
        boolean wet = t >= w.rainFrom && t < w.rainFrom + w.rainFor;
        if (wet || t < reader[1] || t > reader[2]) return false;
        int[] here = course(w.men.get(m))[t];
        return here[0] != NONE && here[side] == reader[0];
    }

    static TreeSet<Integer> known(World w, int r, int until, int side) {
        TreeSet<Integer> known = new TreeSet<>();
        for (int m = 0; m < w.men.size(); m++) {
            int[][] course = course(w.men.get(m));
            int[] reader = w.readers.get(r);
            for (int t = 0; t <= until; t++) {
                boolean wet = t >= w.rainFrom && t < w.rainFrom + w.rainFor;
                if (wet || t < reader[1] || t > reader[2] || course[t][0] == NONE) continue;
                if (course[t][side] == reader[0]) known.add(w.men.get(m).news);
            }
        }
        return known;
    }

    static TreeSet<Integer> whole(World w, int r, int until) {
        TreeSet<Integer> whole = known(w, r, until, 0);
        whole.retainAll(known(w, r, until, 1));
        return whole;
    }

    static int pairs(World w) {
        int pairs = 0;
        for (int r = 0; r < w.readers.size(); r++) pairs += whole(w, r, 59).size();
        return pairs;
    }

    static int bits(Iterable<Integer> numbers) {
        int bits = 0;
        for (int n : numbers) bits |= 1 << n;
        return bits;
    }

    // ---- bounds

    private boolean noMan(int m) {
        return m < 0 || m >= world.men.size();
    }

    private boolean noReader(int r) {
        return r < 0 || r >= world.readers.size();
    }

    private static boolean out(int v, int least, int most) {
        return v < least || v > most;
    }

    // ---- the text

    public int feed(int c) {
        if (out(c, 0, 127)) return BAD;
        if (tape.length() == 160) return FULL;
        tape.append((char) c);
        return tape.length();
    }

    public int end(int n) {
        if (out(n, 0, tape.length())) return BAD;
        int had = tape.length();
        tape.setLength(n);
        return had;
    }

    private static final class Fault extends Exception {
        private static final long serialVersionUID = 1L;
        final int number, place;

        Fault(int number, int place) {
            super("fault " + number + " at " + place);
            this.number = number;
            this.place = place;
        }
    }

    private static final class Lexer {
        final String text;
        int pos = 0, place = 0;

        Lexer(String text) {
            this.text = text;
        }

        /** "" at the end. */
        String next() throws Fault {
            while (text.startsWith(" ", pos)) pos++;
            place = pos;
            if (pos == text.length()) return "";
            String rest = text.substring(pos);
            String token = rest.replaceFirst("(?s)^([a-z]+|[0-9]+|;).*$", "$1");
            if (!token.matches("[a-z]+|[0-9]{1,2}|;")) throw new Fault(1, place);
            pos += token.length();
            return token;
        }

        int number(int least, int most) throws Fault {
            String token = next();
            if (!token.matches("[0-9]+")) throw new Fault(2, place);
            int n = Integer.parseInt(token);
            if (n < least || n > most) throw new Fault(3, place);
            return n;
        }

        void semicolon() throws Fault {
            if (!next().equals(";")) throw new Fault(2, place);
        }
    }

    private static int parse(String text, World w) throws Fault {
        Lexer lexer = new Lexer(text);
        int lines = 0, rains = 0;
        for (String name = lexer.next(); !name.isEmpty(); name = lexer.next()) {
            int kind = List.of("plain", "thin", "stout", "old").indexOf(name);
            if (kind >= 0) {
                if (w.men.size() == 4) throw new Fault(5, lexer.place);
                parseMan(lexer, w, kind);
            } else if (name.equals("street")) {
                if (w.streets.size() == 9) throw new Fault(5, lexer.place);
                int a = lexer.number(0, 7);
                int b = lexer.number(0, 7);
                if (a == b) throw new Fault(3, lexer.place);
                w.streets.add(new int[] {a, b});
                lexer.semicolon();
            } else if (name.equals("reader")) {
                if (w.readers.size() == 4) throw new Fault(5, lexer.place);
                int corner = lexer.number(0, 7);
                int from = lexer.number(0, 59);
                w.readers.add(new int[] {corner, from, lexer.number(from, 59)});
                lexer.semicolon();
            } else if (name.equals("rain")) {
                if (rains++ == 1) throw new Fault(4, lexer.place);
                w.rainFrom = lexer.number(0, 59);
                w.rainFor = lexer.number(0, 59);
                lexer.semicolon();
            } else {
                throw new Fault(2, lexer.place);
            }
            lines++;
        }
        for (Man man : w.men) if (!walkable(w, man.walk)) throw new Fault(6, text.length());
        return lines;
    }

    private static void parseMan(Lexer lexer, World w, int kind) throws Fault {
        Man man = new Man();
        man.kind = kind;
        man.news = lexer.number(0, 9);
        man.walk.add(lexer.number(0, 7));
        for (String token = lexer.next(); !token.equals(";"); token = lexer.next()) {
            if (!token.matches("[0-9]+")) throw new Fault(2, lexer.place);
            if (man.walk.size() == 4) throw new Fault(5, lexer.place);
            if (Integer.parseInt(token) > 7) throw new Fault(3, lexer.place);
            man.walk.add(Integer.parseInt(token));
        }
        w.men.add(man);
    }

    static boolean walkable(World w, List<Integer> walk) {
        if (walk.size() == 1) return true;
        for (int i = 0; i < walk.size(); i++) {
            int a = walk.get(i), b = walk.get((i + 1) % walk.size());
            boolean there = false;
            for (int[] s : w.streets) there |= s[0] == a && s[1] == b || s[0] == b && s[1] == a;
            if (!there) return false;
        }
        return true;
    }

    public int text() {
        String text = tape.toString();
        tape.setLength(0);
        World told = new World();
        try {
            int lines = parse(text, told);
            world = told;
            seen.clear();
            images[0] = null;
            images[1] = null;
            fault = 0;
            return lines;
        } catch (Fault f) {
            fault = f.number;
            return -10 - f.place;
        }
    }

    public int fault() {
        return fault;
    }

    public int rule(int what) {
        if (out(what, 0, 5)) return BAD;
        return new int[] {world.men.size(), world.streets.size(), world.readers.size(), world.rainFrom, world.rainFor,
            pairs(world)}[what];
    }

    public int man(int m, int what) {
        if (noMan(m) || out(what, 0, 4)) return BAD;
        Man man = world.men.get(m);
        int times = 0;
        for (int[] minute : course(man)) if (minute[0] != NONE) times++;
        return new int[] {man.kind, man.news, pace(man.kind), man.walk.size(), times}[what];
    }

    public int walk(int m, int i) {
        return noMan(m) || out(i, 0, world.men.get(m).walk.size() - 1) ? BAD : world.men.get(m).walk.get(i);
    }

    public int street(int i, int what) {
        return out(i, 0, world.streets.size() - 1) || out(what, 0, 1) ? BAD : world.streets.get(i)[what];
    }

    public int reader(int r, int what) {
        return noReader(r) || out(what, 0, 2) ? BAD : world.readers.get(r)[what];
    }

    // ---- what is changed

    public int alter(int m, int what, int v) {
        if (noMan(m) || out(what, 0, 1) || out(v, 0, what == 0 ? 3 : 9)) return BAD;
        Man man = world.men.get(m);
        int was = what == 0 ? man.kind : man.news;
        if (what == 0) man.kind = v;
        else man.news = v;
        return was;
    }

    public int detour(int m, int i, int c) {
        if (walk(m, i) == BAD || out(c, 0, 7)) return BAD;
        List<Integer> changed = new ArrayList<>(world.men.get(m).walk);
        int was = changed.set(i, c);
        if (!walkable(world, changed)) return STATE;
        world.men.get(m).walk = changed;
        return was;
    }

    private static void shift(Man man, int i) {
        List<Integer> turned = new ArrayList<>(man.walk.subList(i, man.walk.size()));
        turned.addAll(man.walk.subList(0, i));
        man.walk = turned;
    }

    public int shift(int m, int i) {
        if (walk(m, i) == BAD) return BAD;
        int was = walk(m, 0);
        shift(world.men.get(m), i);
        return was;
    }

    public int stand(int r, int what, int v) {
        if (noReader(r) || out(what, 0, 2) || out(v, 0, what == 0 ? 7 : 59)) return BAD;
        int[] changed = world.readers.get(r).clone();
        int was = changed[what];
        changed[what] = v;
        if (changed[1] > changed[2]) return BAD;
        world.readers.set(r, changed);
        return was;
    }

    public int rain(int a, int n) {
        if (out(a, 0, 59) || out(n, 0, 59)) return BAD;
        int was = world.rainFrom;
        world.rainFrom = a;
        world.rainFor = n;
        return was;
    }

    public int pave(int a, int b) {
        if (out(a, 0, 7) || out(b, 0, 7) || a == b) return BAD;
        if (world.streets.size() == 9) return FULL;
        world.streets.add(new int[] {a, b});
        return world.streets.size();
    }

    // ---- the day

    public int at(int m, int minute) {
        return noMan(m) || out(minute, 0, 59) ? BAD : course(world.men.get(m))[minute][0];
    }

    public int reads(int r, int minute, int what) {
        if (noReader(r) || out(minute, 0, 59) || out(what, 0, 1)) return BAD;
        List<Integer> men = new ArrayList<>();
        for (int m = 0; m < world.men.size(); m++) if (reads(world, r, minute, m, what)) men.add(m);
        return bits(men);
    }

    public int knows(int r, int minute, int what) {
        if (noReader(r) || out(minute, 0, 59) || out(what, 0, 2)) return BAD;
        return bits(what == 2 ? whole(world, r, minute) : known(world, r, minute, what));
    }

    private static int first(World w, int r, int n) {
        for (int t = 0; t < 60; t++) if (whole(w, r, t).contains(n)) return t;
        return NONE;
    }

    public int first(int r, int n) {
        return noReader(r) || out(n, 0, 9) ? BAD : first(world, r, n);
    }

    public int all(int n) {
        if (out(n, 0, 9)) return BAD;
        List<Integer> readers = new ArrayList<>();
        for (int r = 0; r < world.readers.size(); r++) if (whole(world, r, 59).contains(n)) readers.add(r);
        return bits(readers);
    }

    public int meet(int m, int q) {
        if (noMan(m) || noMan(q) || m == q) return BAD;
        for (int t = 0; t < 60; t++) if (at(m, t) != NONE && at(m, t) == at(q, t)) return t;
        return NONE;
    }

    // ---- what is best

    public int best(int r, int what) {
        if (noReader(r) || out(what, 0, 1)) return BAD;
        int choice = NONE, most = -1;
        for (int c = 0; c < 8; c++) {
            World w = world.copy();
            w.readers.get(r)[0] = c;
            int n = whole(w, r, 59).size();
            if (n > most) {
                choice = c;
                most = n;
            }
        }
        return what == 0 ? choice : most;
    }

    private boolean knowsIf(int r, int n, int what, int v) {
        World w = world.copy();
        w.readers.get(r)[what] = v;
        return whole(w, r, 59).contains(n);
    }

    public int late(int r, int n) {
        if (noReader(r) || out(n, 0, 9)) return BAD;
        for (int t = world.readers.get(r)[2]; t >= 0; t--) if (knowsIf(r, n, 1, t)) return t;
        return NONE;
    }

    public int soon(int r, int n) {
        if (noReader(r) || out(n, 0, 9)) return BAD;
        for (int t = world.readers.get(r)[1]; t < 60; t++) if (knowsIf(r, n, 2, t)) return t;
        return NONE;
    }

    public int begin(int m, int what) {
        if (noMan(m) || out(what, 0, 1)) return BAD;
        int choice = NONE, most = -1;
        for (int i = 0; i < world.men.get(m).walk.size(); i++) {
            World w = world.copy();
            shift(w.men.get(m), i);
            if (pairs(w) > most) {
                choice = i;
                most = pairs(w);
            }
        }
        return what == 0 ? choice : most;
    }

    public int kind(int m, int what) {
        if (noMan(m) || out(what, 0, 1)) return BAD;
        int choice = NONE, most = -1;
        for (int k = 0; k < 4; k++) {
            World w = world.copy();
            w.men.get(m).kind = k;
            if (pairs(w) > most) {
                choice = k;
                most = pairs(w);
            }
        }
        return what == 0 ? choice : most;
    }

    public int swap(int what) {
        if (out(what, 0, 1)) return BAD;
        int choice = NONE, most = pairs(world);
        for (int who = 0; who < 44; who++) {
            int m = who / 10, q = who % 10;
            if (noMan(m) || noMan(q) || m >= q) continue;
            World w = world.copy();
            w.men.get(m).news = world.men.get(q).news;
            w.men.get(q).news = world.men.get(m).news;
            if (pairs(w) > most) {
                choice = who;
                most = pairs(w);
            }
        }
        return choice == NONE ? NONE : what == 0 ? choice : most;
    }

    public int spoil(int n, int what) {
        if (out(n, 1, 59) || out(what, 0, 1)) return BAD;
        int choice = NONE, fewest = 1000;
        for (int a = 0; a < 60; a++) {
            World w = world.copy();
            w.rainFrom = a;
            w.rainFor = n;
            if (pairs(w) < fewest) {
                choice = a;
                fewest = pairs(w);
            }
        }
        return what == 0 ? choice : fewest;
    }

    // ---- men who stay at home

    private long part(BigInteger over, BigInteger under, int what) {
        BigInteger common = over.gcd(under);
        return (what == 0 ? over : under).divide(common).longValueExact();
    }

    /** The men at home are left out of the world; n below 0: PAIRS. */
    private long odds(int v, int r, int n, int what) {
        int men = world.men.size();
        BigInteger sum = BigInteger.ZERO;
        for (int home = 0; home < 1 << men; home++) {
            World w = world.copy();
            BigInteger odds = BigInteger.ONE;
            for (int m = men - 1; m >= 0; m--) {
                boolean stays = (home >> m) % 2 == 1;
                odds = odds.multiply(BigInteger.valueOf(stays ? v : 10 - v));
                if (stays) w.men.remove(m);
            }
            int worth = n < 0 ? pairs(w) : whole(w, r, 59).contains(n) ? 1 : 0;
            sum = sum.add(odds.multiply(BigInteger.valueOf(worth)));
        }
        return part(sum, BigInteger.TEN.pow(men), what);
    }

    public long luck(int v, int r, int n, int what) {
        return out(v, 0, 10) || noReader(r) || out(n, 0, 9) || out(what, 0, 1) ? BAD : odds(v, r, n, what);
    }

    public long mean(int v, int what) {
        return out(v, 0, 10) || out(what, 0, 1) ? BAD : odds(v, 0, -1, what);
    }

    // ---- who it was, what it said

    public int see(int r, int n, int minute, boolean is) {
        if (noReader(r) || out(n, 0, 9) || out(minute, 0, 59)) return BAD;
        if (seen.size() == 6) return FULL;
        seen.add(new Seen(r, n, minute, is));
        return seen.size();
    }

    public int forget(int n) {
        if (out(n, 0, seen.size())) return BAD;
        int were = seen.size();
        seen = new ArrayList<>(seen.subList(0, n));
        return were;
    }

    private static boolean agrees(World w, List<Seen> seen) {
        for (Seen s : seen) {
            if (s.r() >= w.readers.size() || whole(w, s.r(), s.minute()).contains(s.n()) != s.is()) return false;
        }
        return true;
    }

    private List<Integer> kindsBy(int m, List<Seen> seen) {
        List<Integer> kinds = new ArrayList<>();
        for (int k = 0; k < 4; k++) {
            World w = world.copy();
            w.men.get(m).kind = k;
            if (agrees(w, seen)) kinds.add(k);
        }
        return kinds;
    }

    public int kinds(int m) {
        return noMan(m) ? BAD : bits(kindsBy(m, seen));
    }

    public int news(int m) {
        if (noMan(m)) return BAD;
        List<Integer> news = new ArrayList<>();
        for (int n = 0; n < 10; n++) {
            World w = world.copy();
            w.men.get(m).news = n;
            if (agrees(w, seen)) news.add(n);
        }
        return bits(news);
    }

    public int ask(int m, int what) {
        if (noMan(m) || out(what, 0, 1)) return BAD;
        List<Integer> now = kindsBy(m, seen);
        int n = world.men.get(m).news, choice = NONE, fewest = now.size();
        for (int r = 0; r < world.readers.size() && now.size() > 1; r++) {
            for (int t = 0; t < 60; t++) {
                int worst = 0;
                for (boolean is : new boolean[] {false, true}) {
                    List<Integer> left = new ArrayList<>();
                    for (int k : now) {
                        World w = world.copy();
                        w.men.get(m).kind = k;
                        if (whole(w, r, t).contains(n) == is) left.add(k);
                    }
                    worst = Math.max(worst, left.size());
                }
                if (worst < fewest) {
                    choice = 100 * r + t;
                    fewest = worst;
                }
            }
        }
        return choice == NONE ? NONE : what == 0 ? choice : fewest;
    }

    // ---- by a seed

    public int drift(int seed, int n, int what) {
        if (out(n, 1, 60) || out(what, 0, 1)) return BAD;
        if (world.men.isEmpty()) return STATE;
        World w = world.copy();
        BigInteger s = BigInteger.valueOf(seed);
        int sum = 0, last = 0;
        for (int day = 0; day < n; day++) {
            s = s.multiply(BigInteger.valueOf(1103515245)).add(BigInteger.valueOf(12345));
            int got = s.shiftRight(16).mod(BigInteger.valueOf(32768)).intValueExact();
            Man man = w.men.get(got % w.men.size());
            shift(man, got / 4 % man.walk.size());
            w.rainFrom = got / 16 % 60;
            w.rainFor = 10;
            last = pairs(w);
            sum += last;
        }
        return what == 0 ? sum : last;
    }

    // ---- images, sheets

    public int keep(int k) {
        if (out(k, 0, 1)) return BAD;
        int was = images[k] == null ? 0 : 1;
        images[k] = world.copy();
        return was;
    }

    public int back(int k) {
        if (out(k, 0, 1)) return BAD;
        if (images[k] == null) return STATE;
        world = images[k].copy();
        return pairs(world);
    }

    public int sheet(int k, int lane, int n) {
        if (out(k, 0, 3) || out(lane, 0, 2) || n > 40) return BAD;
        try {
            sheets[k] = lane == 0 ? new byte[n] : lane == 1 ? new short[n] : new int[n];
            return 1;
        } catch (NegativeArraySizeException e) {
            return -14;
        }
    }

    public int lay(int k, int i, int v) {
        if (out(k, 0, 3)) return BAD;
        try {
            if (sheets[k] instanceof byte[] bytes) bytes[i] = (byte) v;
            else if (sheets[k] instanceof short[] shorts) shorts[i] = (short) v;
            else ((int[]) sheets[k])[i] = v;
            return 1;
        } catch (NullPointerException e) {
            return -11;
        } catch (ArrayIndexOutOfBoundsException e) {
            return -12;
        }
    }

    private static int cell(Object sheet, int lane, int i) {
        return lane == 0 ? ((byte[]) sheet)[i] : lane == 1 ? ((short[]) sheet)[i] : ((int[]) sheet)[i];
    }

    public int read(int k, int lane, int f, int n) {
        if (out(k, 0, 3) || out(lane, 0, 2) || out(n, 0, 20)) return BAD;
        World before = world.copy();
        int came = 0, found = 0;
        try {
            while (came < n) {
                int r = cell(sheets[k], lane, f + 2 * came);
                int c = cell(sheets[k], lane, f + 2 * came + 1);
                if (stand(r, 0, c) == BAD) {
                    world = before;
                    return -20 - came;
                }
                came++;
            }
        } catch (NullPointerException e) {
            found = 1;
        } catch (ArrayIndexOutOfBoundsException e) {
            found = 2;
        } catch (ClassCastException e) {
            found = 3;
        }
        torn = found;
        return came;
    }

    public int torn() {
        return torn;
    }

    public int count(int what) {
        int sum = 0;
        switch (what) {
            case 0: return seen.size();
            case 1: return (images[0] == null ? 0 : 1) + (images[1] == null ? 0 : 1);
            case 2: return tape.length();
            case 3: return sheets[0] == null ? NONE : java.lang.reflect.Array.getLength(sheets[0]);
            case 4:
                for (Man man : world.men) sum += man.walk.size();
                return sum;
            case 5:
                for (int[] r : world.readers) sum += r[2] - r[1] + 1;
                return sum;
            default: return BAD;
        }
    }
}
