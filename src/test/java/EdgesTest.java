import java.math.BigInteger;

/** Promise by promise, each sentence that names an edge; BoundsTest has the bounds of each number. */
public final class EdgesTest {
    /** thin 4 is at 0 in even minutes, at 1 in odd ones. */
    private static final String THIN = "street 0 1;thin 4 0 1;";
    /** Two thin ones with one news: at 0 and at 1 each minute but the first shows one's front, the other's back. */
    private static final String BOTH = "street 0 1;thin 4 0 1;thin 4 1 0;";
    private static final String FOUR = "street 0 1;thin 1 0 1;thin 2 1 0;thin 3 0 1;thin 4 1 0;";
    private static final String RING = "street 0 1;street 1 2;street 2 3;street 3 0;";
    /** The reader at 0 knows 3 whole by 2, 4, 6, 12 if the man is thin, plain, stout, old (as he is). */
    private static final String OLD = "street 0 1;old 3 1 0;reader 0 0 59;";

    private final Due due = new Due();

    public static void main(String[] args) {
        EdgesTest t = new EdgesTest();
        t.newObject();
        t.alter();
        t.detour();
        t.shift();
        t.stand();
        t.pave();
        t.first();
        t.all();
        t.meet();
        t.best();
        t.late();
        t.soon();
        t.begin();
        t.kind();
        t.swap();
        t.spoil();
        t.luck();
        t.see();
        t.forget();
        t.kinds();
        t.news();
        t.ask();
        t.drift();
        t.keep();
        t.back();
        t.due.finish("EdgesTest");
    }

    private Run run(String sentence, String text, String... rows) {
        return Run.of(due, sentence, text, rows);
    }

    private void newObject() {
        run("1: no MEN, no READERS, no STREETS", "", "rule 0 = 0", "rule 1 = 0", "rule 2 = 0", "rule 3 = 0", "rule 4 = 0",
            "rule 5 = 0", "count 4 = 0", "count 5 = 0", "fault = 0");
        run("1: SHEETS have nothing", "", "count 3 = NONE", "lay 0 0 0 = -11", "lay 1 0 0 = -11", "lay 2 0 0 = -11",
            "lay 3 0 0 = -11", "torn = 0", "read 3 0 0 1 = 0", "torn = 1");
        run("1: nothing SEEN, no IMAGE, nothing on THE TAPE", "", "count 0 = 0", "count 1 = 0", "count 2 = 0", "back 0 = STATE",
            "back 1 = STATE", "forget 0 = 0", "end 0 = 0", "text = 0");
        run("1: what is best where there is none", "", "all 9 = 0", "swap 0 = NONE", "swap 1 = NONE", "spoil 59 0 = 0",
            "spoil 59 1 = 0", "mean 10 0 = 0", "mean 10 1 = 1", "drift 1 60 0 = STATE", "drift 1 61 0 = BAD");
    }

    private void alter() {
        run("11: becomes v: what it was", THIN, "alter 0 0 3 = 1", "alter 0 0 3 = 3", "alter 0 0 0 = 3", "man 0 2 = 2",
            "alter 0 1 9 = 4", "alter 0 1 0 = 9", "man 0 1 = 0", "walk 0 1 = 1");
        run("11: the bounds of a KIND are not those of a NEWS", THIN, "alter 0 0 4 = BAD", "alter 0 1 4 = 4", "alter 0 1 9 = 4",
            "alter 0 0 9 = BAD", "alter 0 2 0 = BAD", "alter 0 -1 0 = BAD");
        run("11: of a MAN there is", FOUR, "alter 3 1 8 = 4", "alter 4 1 8 = BAD", "alter -1 1 8 = BAD", "man 3 1 = 8",
            "man 2 1 = 3");
    }

    private void detour() {
        String text = RING + "old 1 0 1 2 3;old 2 0;old 3 0 1;";
        run("12: no STREET to the next one", RING + "street 3 5;old 1 0 1 2 3;", "detour 0 0 5 = STATE", "pave 5 1 = 6",
            "detour 0 0 5 = 0", "walk 0 0 = 5");
        run("12: no STREET from the one ahead", RING + "street 3 5;old 1 0 1 2 3;", "detour 0 2 5 = STATE",
            "pave 1 5 = 6", "detour 0 2 5 = 2", "walk 0 2 = 5");
        run("12: round, of the first CORNER: the last one is ahead of it", "street 0 1;street 1 2;street 2 0;street 1 4;"
            + "old 1 0 1 2;", "detour 0 0 4 = STATE", "pave 4 2 = 5", "detour 0 0 4 = 0", "at 0 0 = 4");
        run("12: round, of the last CORNER: the first one is next", "street 0 1;street 1 2;street 2 0;street 1 4;"
            + "old 1 0 1 2;", "detour 0 2 4 = STATE", "pave 0 4 = 5", "detour 0 2 4 = 2", "walk 0 2 = 4", "detour 0 3 4 = BAD");
        run("12: beside itself there is no STREET", text, "detour 0 1 0 = STATE", "detour 0 1 2 = STATE", "detour 0 3 0 = STATE",
            "detour 2 1 0 = STATE", "detour 2 0 1 = STATE");
        run("12: as it was is taken", text, "detour 0 3 3 = 3", "detour 0 0 0 = 0", "detour 1 0 0 = 0", "detour 2 1 1 = 1");
        run("12: across, to the CORNER on the other side", text, "detour 0 2 0 = 2", "walk 0 2 = 0", "detour 0 0 2 = 0",
            "walk 0 0 = 2");
        run("12: a WALK of one CORNER needs no STREET", text, "detour 1 0 7 = 0", "detour 1 0 5 = 7", "at 1 54 = 5");
        run("12: a WALK of two", text, "detour 2 1 3 = 1", "detour 2 0 2 = 0", "detour 2 0 1 = STATE", "walk 2 0 = 2",
            "walk 2 1 = 3");
        run("12: BAD ahead of STATE", text, "detour 0 1 8 = BAD", "detour 0 1 -1 = BAD", "detour 0 4 2 = BAD",
            "detour 0 -1 2 = BAD", "detour 3 0 2 = BAD", "detour 1 1 0 = BAD", "detour 2 2 0 = BAD");
    }

    private void shift() {
        String text = RING + "street 2 0;thin 4 0 1 2 3;old 1 5;old 2 2 0 1;";
        run("13: the 0th changes nothing", text, "shift 0 0 = 0", "walk 0 0 = 0", "walk 0 3 = 3");
        run("13: the 1st", text, "shift 0 1 = 0", "walk 0 0 = 1", "walk 0 1 = 2", "walk 0 2 = 3", "walk 0 3 = 0");
        run("13: the last, all others behind it as they were, round", text, "shift 0 3 = 0", "walk 0 0 = 3", "walk 0 1 = 0",
            "walk 0 2 = 1", "walk 0 3 = 2", "at 0 0 = 3", "at 0 4 = 3", "at 0 59 = 2");
        run("13: none behind the last", text, "shift 0 4 = BAD", "shift 1 1 = BAD", "shift 2 3 = BAD", "shift 0 -1 = BAD");
        run("13: a WALK of one CORNER", text, "shift 1 0 = 5", "walk 1 0 = 5");
        run("13: from there, not from where it began", text, "shift 2 2 = 2", "shift 2 2 = 1", "walk 2 0 = 0", "walk 2 1 = 1",
            "walk 2 2 = 2", "shift 2 1 = 0", "shift 2 1 = 1", "shift 2 1 = 2", "walk 2 0 = 0");
        run("13: he was nowhere ahead of MINUTE 0", THIN + "reader 0 0 0;reader 1 0 0;", "shift 0 1 = 0", "reads 0 0 1 = 0",
            "reads 1 0 0 = 1", "reads 1 0 1 = 0");
    }

    private void stand() {
        String text = "reader 3 10 20;reader 4 0 0;reader 5 59 59;";
        run("14: FROM above UNTIL", text, "stand 0 1 20 = 10", "stand 0 1 21 = BAD", "reader 0 1 = 20", "stand 1 1 0 = 0",
            "stand 1 1 1 = BAD", "stand 2 1 59 = 59", "stand 2 1 60 = BAD", "stand 2 1 0 = 59");
        run("14: UNTIL below FROM", text, "stand 0 2 10 = 20", "stand 0 2 9 = BAD", "reader 0 2 = 10", "stand 2 2 59 = 59",
            "stand 2 2 58 = BAD", "stand 1 2 -1 = BAD", "stand 1 2 59 = 0");
        run("14: a CORNER is no MINUTE", text, "stand 0 0 7 = 3", "stand 0 0 8 = BAD", "stand 0 0 15 = BAD", "reader 0 0 = 7",
            "reader 1 0 = 4");
        run("14: what is 0 to 2", text, "stand 0 3 15 = BAD", "stand 0 -1 15 = BAD", "stand 3 0 0 = BAD", "stand -1 0 0 = BAD");
    }

    private void pave() {
        run("16: a STREET more, though there is one", THIN, "pave 0 1 = 2", "pave 1 0 = 3", "street 2 0 = 1", "street 2 1 = 0");
        for (int c = 0; c < 8; c++) {
            run("16: BAD, also alike", "", "pave " + c + " " + c + " = BAD", "rule 1 = 0");
        }
        run("16: FULL, BAD ahead of it", "street 0 1;".repeat(8), "pave 7 6 = 9", "pave 7 6 = FULL", "pave 7 7 = BAD",
            "pave 8 6 = BAD", "pave 7 -1 = BAD", "rule 1 = 9", "street 8 0 = 7");
    }

    private void first() {
        run("20: the least there may be, 1", THIN + "reader 0 0 1;", "first 0 4 = 1");
        run("20: the most there may be, 59", THIN + "reader 0 58 59;", "first 0 4 = 59");
        run("20: NONE: by none", THIN + "reader 0 59 59;reader 0 0 0;reader 5 0 59;", "first 0 4 = NONE", "first 1 4 = NONE",
            "first 2 4 = NONE", "first 0 3 = NONE", "first 0 10 = BAD", "first 3 4 = BAD");
        run("20: of several MEN the sooner FRONT, the sooner BACK", "street 0 1;old 4 0 1;plain 4 1 0;reader 0 0 59;",
            "first 0 4 = 4");
        run("20: RAIN puts it off", THIN + "reader 0 0 59;", "rain 0 0", "first 0 4 = 1", "rain 0 1", "first 0 4 = 2", "rain 1 1",
            "first 0 4 = 3", "rain 0 58", "first 0 4 = 59", "rain 0 59", "first 0 4 = NONE");
    }

    private void all() {
        run("21: none, one, all READERS", BOTH + "reader 5 0 59;reader 5 0 59;reader 5 0 59;reader 5 0 59;", "all 4 = 0",
            "stand 0 0 0 = 5", "all 4 = 1", "stand 3 0 1 = 5", "all 4 = 9", "stand 1 0 0 = 5", "stand 2 0 1 = 5", "all 4 = 15",
            "all 3 = 0", "all 10 = BAD", "all -1 = BAD");
        run("21: by MINUTE 59, that one too", BOTH + "reader 0 59 59;", "all 4 = 1", "rain 59 1", "all 4 = 0");
    }

    private void meet() {
        run("22: in MINUTE 0", "old 1 3;thin 2 3;", "meet 0 1 = 0", "meet 1 0 = 0");
        run("22: late, in MINUTE 54", RING + "street 1 4;street 4 5;street 5 1;old 1 0 1 2 3;stout 2 1 4 5;", "meet 0 1 = 54",
            "meet 1 0 = 54", "at 0 54 = 1", "at 1 54 = 1");
        run("22: NONE: it would be in MINUTE 60", RING + "street 2 4;street 4 5;street 5 2;old 1 0 1 2 3;stout 2 4 5 2;",
            "meet 0 1 = NONE", "meet 1 0 = NONE");
        run("22: NONE: not in one MINUTE", THIN + "thin 4 1 0;", "meet 0 1 = NONE", "rain 0 59", "meet 0 1 = NONE");
        run("22: both between CORNERS is no CORNER", "plain 1 3;plain 2 5;", "meet 0 1 = NONE");
        run("22: in RAIN, too", "old 1 3;thin 2 3;rain 0 59;", "meet 0 1 = 0");
        run("22: BAD, also alike", "old 1 3;thin 2 3;", "meet 0 0 = BAD", "meet 1 1 = BAD", "meet 0 2 = BAD", "meet 2 0 = BAD",
            "meet -1 0 = BAD", "meet 0 -1 = BAD", "meet 2 2 = BAD");
    }

    private void best() {
        run("23: most are none: the first CORNER", "reader 5 0 59;", "best 0 0 = 0", "best 0 1 = 0");
        run("23: CORNER 7", "street 6 7;stout 1 7 6;reader 0 0 3;", "best 0 0 = 7", "best 0 1 = 1");
        run("23: of several the first", "street 6 7;stout 1 7 6;reader 7 0 59;", "best 0 0 = 6", "best 0 1 = 1");
        run("23: four NEWS", FOUR + "reader 5 0 59;reader 5 59 59;", "best 0 0 = 0", "best 0 1 = 4", "best 1 1 = 0",
            "reader 0 0 = 5");
        run("23: two are more than one, though behind", RING + "thin 1 0 1;thin 2 1 2;reader 5 0 59;", "best 0 0 = 1",
            "best 0 1 = 2");
        run("23: by MINUTE 59", BOTH + "reader 5 59 59;", "best 0 0 = 0", "best 0 1 = 1", "rain 59 1", "best 0 1 = 0");
    }

    private void late() {
        run("24: UNTIL at most", BOTH + "reader 0 0 30;", "late 0 4 = 30", "stand 0 2 59", "late 0 4 = 59", "stand 0 2 1",
            "late 0 4 = 1");
        run("24: NONE: there is no BACK in MINUTE 0", BOTH + "reader 0 0 0;", "late 0 4 = NONE", "stand 0 2 1", "late 0 4 = 1");
        run("24: MINUTE 0", THIN + "reader 0 0 1;", "late 0 4 = 0", "stand 0 1 1", "late 0 4 = 0", "stand 0 1 0", "stand 0 2 0",
            "late 0 4 = NONE");
        run("24: sooner than he comes, later than he comes", THIN + "reader 0 20 20;reader 0 0 20;", "late 0 4 = 19",
            "late 1 4 = 19", "all 4 = 2");
        run("24: RAIN", THIN + "reader 0 0 20;", "rain 20 1", "late 0 4 = 18", "rain 19 2", "late 0 4 = 17", "rain 0 20",
            "late 0 4 = NONE", "rain 0 19", "late 0 4 = 19", "rain 1 59", "late 0 4 = NONE");
        run("24: NONE: of a NEWS that none has", THIN + "reader 0 0 20;", "late 0 5 = NONE", "late 0 10 = BAD", "late 1 5 = BAD");
    }

    private void soon() {
        run("25: FROM at least", BOTH + "reader 0 30 59;", "soon 0 4 = 30", "stand 0 1 59", "soon 0 4 = 59", "stand 0 1 1",
            "soon 0 4 = 1", "stand 0 1 0", "soon 0 4 = 1");
        run("25: MINUTE 59, and NONE behind it", THIN + "reader 0 58 58;", "soon 0 4 = 59", "stand 0 2 59", "stand 0 1 59",
            "soon 0 4 = NONE");
        run("25: later than he goes, sooner than he goes", THIN + "reader 0 20 20;reader 0 20 59;", "soon 0 4 = 21",
            "soon 1 4 = 21", "all 4 = 2");
        run("25: RAIN", THIN + "reader 0 20 59;", "rain 20 1", "soon 0 4 = 22", "rain 20 2", "soon 0 4 = 23", "rain 20 39",
            "soon 0 4 = NONE", "rain 20 38", "soon 0 4 = 59");
        run("25: NONE: of a NEWS that none has", THIN + "reader 0 0 20;", "soon 0 5 = NONE", "soon 0 10 = BAD", "soon 1 5 = BAD");
    }

    private void begin() {
        run("26: a WALK of one CORNER", "old 1 6;reader 6 0 59;", "begin 0 0 = 0", "begin 0 1 = 0");
        run("26: the last place", RING + "old 3 0 1 2 3;reader 3 0 6;", "begin 0 0 = 3", "begin 0 1 = 1", "rule 5 = 0",
            "shift 0 3", "rule 5 = 1", "begin 0 0 = 0");
        run("26: of several the first", RING + "thin 3 0 1 2 3;reader 3 0 59;", "begin 0 0 = 0", "begin 0 1 = 1");
        run("26: most are none: the first", RING + "thin 3 0 1 2 3;", "begin 0 0 = 0", "begin 0 1 = 0");
        run("26: not the worst for what there is", RING + "old 3 0 1 2 3;reader 0 0 6;", "begin 0 0 = 0", "begin 0 1 = 1");
    }

    private void kind() {
        run("27: old alone", RING + "street 2 0;plain 3 0 1 2;reader 0 18 24;rain 19 5;", "kind 0 0 = 3", "kind 0 1 = 1",
            "rule 5 = 0", "alter 0 0 3", "rule 5 = 1", "kind 0 0 = 3");
        run("27: thin alone", THIN + "reader 0 58 59;", "kind 0 0 = 1", "kind 0 1 = 1");
        run("27: stout alone", RING + "street 2 0;old 3 0 1 2;reader 0 9 12;rain 10 2;", "kind 0 0 = 2", "kind 0 1 = 1");
        run("27: of several the first", OLD, "kind 0 0 = 0", "kind 0 1 = 1");
        run("27: most are none: plain", "old 3 6;reader 6 0 59;", "kind 0 0 = 0", "kind 0 1 = 0");
    }

    private void swap() {
        run("28: NONE: no MEN, one MAN", "", "swap 0 = NONE", "swap 1 = NONE", "swap 2 = BAD", "swap -1 = BAD");
        run("28: NONE: one MAN", THIN + "reader 0 0 59;", "swap 0 = NONE", "swap 1 = NONE");
        String halves = "street 0 1;plain 9 7;plain 1 0;plain 2 7;old 2 0 1;reader 0 1 11;";
        run("28: more than as it is", halves, "swap 0 = 12", "swap 1 = 1", "alter 1 1 2", "swap 0 = NONE", "swap 1 = NONE");
        run("28: the last two", "street 0 1;plain 9 7;plain 3 0;old 2 0 1;plain 3 7;reader 0 1 11;", "swap 0 = 23",
            "swap 1 = 1");
        run("28: the first two", "street 0 1;plain 2 7;plain 1 0;old 2 0 1;reader 0 1 11;", "swap 0 = 1", "swap 1 = 1");
        run("28: of several the least", "street 0 1;thin 1 0 1;thin 1 1 0;plain 2 3;reader 0 0 59;reader 1 0 59;", "swap 0 = 2",
            "swap 1 = 4");
        run("28: NONE: as many as it is are not more", "street 0 1;thin 4 0 1;old 5 6;reader 0 0 59;", "rule 5 = 1",
            "swap 0 = NONE", "swap 1 = NONE");
        run("28: two with one NEWS change none", BOTH + "reader 0 0 59;", "swap 0 = NONE");
    }

    private void spoil() {
        run("29: from MINUTE 59", BOTH + "reader 0 59 59;", "spoil 1 0 = 59", "spoil 1 1 = 0", "spoil 2 0 = 58",
            "spoil 59 0 = 1", "spoil 58 0 = 2", "rule 5 = 1");
        run("29: from MINUTE 0", THIN + "reader 0 0 1;", "spoil 1 0 = 0", "spoil 1 1 = 0", "spoil 59 0 = 0");
        run("29: most is none: MINUTE 0", THIN + "reader 0 0 59;", "spoil 1 0 = 0", "spoil 1 1 = 1", "spoil 58 0 = 0",
            "spoil 58 1 = 1", "spoil 59 0 = 0", "spoil 59 1 = 0");
        run("29: in place of the RAIN that is", THIN + "reader 0 0 1;rain 0 59;", "rule 5 = 0", "spoil 1 0 = 0", "spoil 1 1 = 0",
            "stand 0 2 3", "spoil 1 1 = 1", "rule 3 = 0", "rule 4 = 59");
        run("29: of several the first", BOTH + "reader 0 20 21;reader 1 30 30;", "spoil 2 0 = 20", "spoil 2 1 = 1",
            "spoil 11 0 = 20", "spoil 11 1 = 0", "spoil 10 0 = 12", "spoil 10 1 = 1", "spoil 1 0 = 30");
        run("29: n is 1 to 59", THIN, "spoil 0 0 = BAD", "spoil 60 0 = BAD", "spoil -1 0 = BAD", "spoil 1 2 = BAD");
    }

    private void luck() {
        String text = BOTH + "reader 0 0 59;reader 5 0 59;";
        run("30: 0 out of ten: as it is", text, "luck 0 0 4 0 = 1", "luck 0 0 4 1 = 1", "luck 0 1 4 0 = 0", "luck 0 1 4 1 = 1");
        run("30: read in MINUTE 0, in MINUTE 59", THIN + "reader 0 0 1;reader 0 58 59;", "luck 0 0 4 0 = 1", "luck 4 0 4 0 = 3",
            "luck 4 0 4 1 = 5", "luck 0 1 4 0 = 1", "mean 4 0 = 6", "mean 4 1 = 5");
        run("30: 10 out of ten: all at home", text, "luck 10 0 4 0 = 0", "luck 10 0 4 1 = 1");
        run("30: 9 out of ten, 1 out of ten", text, "luck 9 0 4 0 = 19", "luck 9 0 4 1 = 100", "luck 1 0 4 0 = 99",
            "luck 1 0 4 1 = 100");
        run("30: v is 0 to 10", text, "luck -1 0 4 0 = BAD", "luck 11 0 4 0 = BAD", "luck 3 2 4 0 = BAD", "luck 3 0 10 0 = BAD",
            "luck 3 0 4 2 = BAD", "luck 3 0 4 -1 = BAD");
        run("30: each by himself: both are wanted", BOTH + "reader 0 1 1;", "luck 3 0 4 0 = 49", "luck 3 0 4 1 = 100",
            "luck 10 0 4 0 = 0");
        run("31: the mean of PAIRS, likewise", BOTH + "reader 0 1 1;reader 0 0 59;", "mean 3 0 = 7", "mean 3 1 = 5",
            "mean 0 0 = 2", "mean 0 1 = 1", "mean 10 0 = 0", "mean 10 1 = 1", "mean -1 0 = BAD", "mean 11 0 = BAD",
            "mean 3 2 = BAD", "mean 3 -1 = BAD");
    }

    private void see() {
        run("32: SEEN (6)", OLD, "see 0 3 12 true = 1", "see 0 3 11 false = 2", "see 0 3 12 true = 3", "see 0 3 12 true = 4",
            "see 0 3 12 true = 5", "see 0 3 6 true = 6", "kinds 0 = 0", "see 0 3 12 true = FULL", "see 0 3 12 false = FULL",
            "count 0 = 6", "forget 5 = 6", "kinds 0 = 8", "see 0 9 0 false = 6", "see 0 9 0 false = FULL");
        run("32: BAD ahead of FULL", OLD, "see 0 3 12 true", "see 0 3 12 true", "see 0 3 12 true", "see 0 3 12 true",
            "see 0 3 12 true", "see 0 3 12 true", "see 1 3 12 true = BAD", "see 0 10 12 true = BAD", "see 0 3 60 true = BAD",
            "see 0 3 -1 true = BAD", "see 0 3 59 true = FULL");
        run("32: of each READER by himself", "street 0 1;old 3 1 0;reader 5 0 59;reader 1 0 59;reader 5 0 59;reader 0 0 59;",
            "see 0 3 59 false = 1", "see 3 3 12 true = 2", "see 1 3 6 true = 3", "see 2 3 59 false = 4", "see 3 3 11 false = 5",
            "see 1 3 5 false = 6", "kinds 0 = 8", "forget 5", "kinds 0 = 8", "forget 4", "kinds 0 = 15", "news 0 = 8");
        run("32: it need not be so", OLD, "see 0 9 0 true = 1", "kinds 0 = 0", "news 0 = 0");
    }

    private void forget() {
        run("33: of none", OLD, "forget 0 = 0", "forget 1 = BAD", "forget -1 = BAD");
        run("33: the first n alone", OLD, "see 0 3 6 true", "see 0 3 4 true", "see 0 3 2 true", "kinds 0 = 2", "forget 4 = BAD",
            "forget 3 = 3", "kinds 0 = 2", "forget 2 = 3", "kinds 0 = 3", "forget 3 = BAD", "forget 1 = 2", "kinds 0 = 7",
            "forget 0 = 1", "kinds 0 = 15", "count 0 = 0");
        run("33: what comes then is behind them", OLD, "see 0 3 6 true", "see 0 3 4 true", "forget 1 = 2", "see 0 3 5 false = 2",
            "kinds 0 = 4", "forget 1 = 2", "kinds 0 = 7");
        run("33: of six", OLD, "see 0 3 6 true", "see 0 3 6 true", "see 0 3 6 true", "see 0 3 6 true", "see 0 3 6 true",
            "see 0 3 6 true", "forget 7 = BAD", "forget 6 = 6", "forget 0 = 6", "forget 0 = 0");
    }

    private void kinds() {
        run("34: nothing SEEN: all KINDS", OLD, "kinds 0 = 15", "kinds 1 = BAD", "kinds -1 = BAD");
        run("34: by that MINUTE, not by the one ahead", OLD, "see 0 3 12 true", "kinds 0 = 15", "forget 0", "see 0 3 11 true",
            "kinds 0 = 7", "forget 0", "see 0 3 6 true", "kinds 0 = 7", "forget 0", "see 0 3 5 true", "kinds 0 = 3", "forget 0",
            "see 0 3 2 true", "kinds 0 = 2", "forget 0", "see 0 3 1 true", "kinds 0 = 0");
        run("34: not known by that MINUTE", OLD, "see 0 3 12 false", "kinds 0 = 0", "forget 0", "see 0 3 11 false", "kinds 0 = 8",
            "forget 0", "see 0 3 0 false", "kinds 0 = 15", "forget 0", "see 0 3 59 false", "kinds 0 = 0");
        run("34: SEEN of another NEWS", OLD, "see 0 4 59 false", "kinds 0 = 15", "see 0 4 59 true", "kinds 0 = 0");
        run("34: all else as it is: another MAN tells it", "street 0 1;old 3 1 0;thin 3 0 1;reader 0 0 59;", "see 0 3 1 true",
            "kinds 0 = 15", "kinds 1 = 2", "alter 1 1 4", "kinds 0 = 0");
        run("34: as the READER stands now", OLD, "see 0 3 2 true", "kinds 0 = 2", "stand 0 1 3", "kinds 0 = 0", "stand 0 1 0",
            "rain 2 1", "kinds 0 = 0", "rain 0 0", "kinds 0 = 2");
        run("34: SEEN stay behind back()", OLD, "keep 0", "see 0 3 2 true", "back 0 = 1", "count 0 = 1", "kinds 0 = 2");
    }

    private void news() {
        run("35: nothing SEEN: all NEWS", OLD, "news 0 = 1023", "news 1 = BAD", "news -1 = BAD");
        run("35: NEWS 0, NEWS 9", OLD, "see 0 0 12 true", "news 0 = 1", "see 0 9 59 true", "news 0 = 0", "forget 0",
            "see 0 9 12 true", "news 0 = 512", "forget 0", "see 0 9 59 false", "news 0 = 511", "see 0 0 59 false", "news 0 = 510");
        run("35: by that MINUTE, not by the one ahead", OLD, "see 0 3 12 true", "news 0 = 8", "forget 0", "see 0 3 11 true",
            "news 0 = 0", "forget 0", "see 0 3 11 false", "news 0 = 1023", "forget 0", "see 0 3 12 false", "news 0 = 1015");
        run("35: all else as it is: another MAN tells it", "street 0 1;old 3 1 0;thin 3 0 1;reader 0 0 59;", "see 0 3 59 true",
            "news 0 = 1023", "news 1 = 1023", "see 0 3 1 true", "news 0 = 1023", "news 1 = 8", "see 0 3 59 false", "news 0 = 0");
        run("35: he who is never whole", "old 3 6;reader 6 0 59;", "see 0 3 59 false", "news 0 = 1023", "see 0 3 59 true",
            "news 0 = 0");
    }

    private void ask() {
        run("36: NONE: no READER", THIN, "ask 0 0 = NONE", "ask 0 1 = NONE", "ask 0 2 = BAD", "ask 1 0 = BAD");
        run("36: NONE: no READER, though there was one", OLD, "ask 0 0 = 4", "end 0", "type " + THIN, "text = 2", "ask 0 0 = NONE",
            "ask 0 1 = NONE");
        run("36: NONE: none that tells", "old 3 6;reader 6 0 59;", "ask 0 0 = NONE", "ask 0 1 = NONE", "kinds 0 = 15");
        run("36: the last READER, the last MINUTE", THIN + "reader 5 0 59;reader 5 0 59;reader 5 0 59;reader 0 58 59;",
            "ask 0 0 = 359", "ask 0 1 = 3");
        run("36: of several the least", OLD, "ask 0 0 = 4", "ask 0 1 = 2");
        run("36: of several READERS the first", "street 0 1;old 3 1 0;reader 5 0 59;reader 0 0 59;reader 0 0 59;",
            "ask 0 0 = 104", "ask 0 1 = 2");
        run("36: fewest at the worst, though a READER is behind", THIN + "reader 0 58 59;reader 0 0 59;", "ask 0 0 = 102",
            "ask 0 1 = 2");
        run("36: of two", OLD, "see 0 3 4 true", "ask 0 0 = 2", "ask 0 1 = 1", "see 0 3 2 false", "kinds 0 = 1", "ask 0 0 = NONE",
            "ask 0 1 = NONE");
        run("36: of three", OLD, "see 0 3 6 true", "kinds 0 = 7", "ask 0 0 = 2", "ask 0 1 = 2");
        run("36: of none", OLD, "see 0 3 0 true", "kinds 0 = 0", "ask 0 0 = NONE", "ask 0 1 = NONE");
        run("36: the NEWS of that MAN, though another has it", "street 0 1;old 3 1 0;thin 3 0 1;reader 0 0 59;",
            "ask 0 0 = NONE", "ask 1 0 = 2", "alter 1 1 4", "ask 0 0 = 4", "ask 1 0 = 2");
        run("36: MINUTE 1 is the least that tells", THIN + "reader 0 0 59;", "see 0 4 2 true", "kinds 0 = 3", "ask 0 0 = 1",
            "ask 0 1 = 1");
    }

    /** What the sentence says, done by shift(), rain() and rule() on another object, one day behind another. */
    private int drifted(String text, int[] corners, int seed, int days, int what) {
        BoardPress x = Due.told(text);
        BigInteger s = BigInteger.valueOf(seed);
        int sum = 0;
        for (int day = 0; day < days; day++) {
            s = s.multiply(BigInteger.valueOf(1103515245)).add(BigInteger.valueOf(12345));
            int got = s.shiftRight(16).and(BigInteger.valueOf(0x7fff)).intValueExact();
            int m = got % corners.length;
            due.is("37: shift() in drift()", x.shift(m, got / 4 % corners[m]) < 0 ? 1 : 0, 0);
            due.is("37: rain() in drift()", x.rain(got / 16 % 60, 10) < 0 ? 1 : 0, 0);
            sum += x.rule(5);
        }
        return what == 0 ? sum : x.rule(5);
    }

    private void drift() {
        String[] texts = {RING + "old 3 0 1 2 3;reader 1 0 9;reader 3 20 31;",
            RING + "old 3 0 1 2 3;stout 2 1 0;old 1 5;reader 1 9 15;reader 0 50 59;",
            "street0 1;street1 2;street2 0;old1 5;old2 0 1;stout3 0 1 2;old4 2 1 0;reader0 0 9;reader1 20 29;reader2 50 59;"};
        int[][] corners = {{4}, {4, 2, 1}, {1, 2, 3, 3}};
        int[] seeds = {0, 1, -1, 2, 12345, -12345, 65535, 65536, 1 << 30, -(1 << 30), Integer.MAX_VALUE, Integer.MIN_VALUE};
        for (int i = 0; i < texts.length; i++) {
            for (int seed : seeds) {
                Run run = run("37: a seed's multiplication goes round", texts[i]);
                for (int days : new int[] {1, 2, 3, 59, 60}) {
                    for (int what = 0; what < 2; what++) {
                        run.is("drift " + seed + " " + days + " " + what, drifted(texts[i], corners[i], seed, days, what));
                    }
                }
            }
        }
        run("37: days are 1 to 60", THIN, "drift 0 0 0 = BAD", "drift 0 61 0 = BAD", "drift 0 -1 0 = BAD", "drift 0 MIN 0 = BAD",
            "drift 0 MAX 0 = BAD", "drift 0 1 2 = BAD", "drift 0 1 -1 = BAD", "drift 0 60 1 = 0");
        run("37: STATE: there are no MEN; BAD ahead of it", "reader 0 0 59;", "drift 0 1 0 = STATE", "drift 0 60 1 = STATE",
            "drift 0 0 0 = BAD", "drift 0 61 0 = BAD", "drift 0 1 2 = BAD");
        run("37: a WALK of one CORNER", "old 1 5;reader 5 0 59;", "drift 1 60 0 = 0", "drift MIN 60 1 = 0");
        run("37: by itself", RING + "old 3 0 1 2 3;reader 1 0 9;rain 3 4;", "drift 1 60 0", "walk 0 0 = 0", "rule 3 = 3",
            "rule 4 = 4");
    }

    private void keep() {
        run("38: IMAGE 0, IMAGE 1", OLD, "keep 2 = BAD", "keep -1 = BAD", "count 1 = 0", "keep 1 = 0", "count 1 = 1", "keep 1 = 1",
            "keep 0 = 0", "count 1 = 2", "keep 0 = 1", "count 1 = 2");
        run("38: an IMAGE is that which was then", OLD, "keep 0", "alter 0 0 1", "keep 1", "alter 0 0 2", "back 0 = 1",
            "man 0 0 = 3", "back 1 = 1", "man 0 0 = 1", "alter 0 0 2", "back 1 = 1", "man 0 0 = 1", "keep 0 = 1", "alter 0 0 0",
            "back 0 = 1", "man 0 0 = 1");
        run("38: of none", "", "keep 0 = 0", "pave 0 1 = 1", "rain 5 6", "back 0 = 0", "rule 1 = 0", "rule 3 = 0", "rule 4 = 0",
            "count 1 = 1");
        run("38: all of the READERS, all of the STREETS", FOUR + "reader 0 0 59;reader 1 1 58;reader 2 2 57;reader 3 3 56;",
            "pave 1 2", "pave 2 3", "pave 3 4", "pave 4 5", "pave 5 6", "pave 6 7", "pave 7 0", "pave 0 2 = 9", "keep 1 = 0",
            "stand 3 0 7", "stand 3 1 4", "stand 3 2 5", "alter 3 1 9", "shift 3 1", "back 1 = 8", "reader 3 0 = 3",
            "reader 3 1 = 3", "reader 3 2 = 56", "man 3 1 = 4", "walk 3 0 = 1", "street 8 0 = 0", "street 8 1 = 2");
        run("38: SEEN, THE TAPE and SHEETS are not of it", OLD, "see 0 3 6 true", "sheet 0 0 3", "feed 59", "keep 0", "forget 0",
            "sheet 0 0 5", "feed 59", "back 0 = 1", "count 0 = 0", "count 2 = 2", "count 3 = 5");
    }

    private void back() {
        run("39: STATE: there is none", OLD, "back 0 = STATE", "back 1 = STATE", "keep 1", "back 0 = STATE", "back 1 = 1",
            "back 2 = BAD", "back -1 = BAD");
        run("39: the IMAGE is there still", OLD, "keep 0", "back 0 = 1", "back 0 = 1", "count 1 = 1", "keep 0 = 1");
        run("39: a STREET that is gone", OLD, "keep 0", "pave 0 5 = 2", "detour 0 0 5 = 1", "back 0 = 1", "walk 0 0 = 1",
            "detour 0 0 5 = STATE", "rule 1 = 1");
        run("39: BAD ahead of STATE", "", "back 2 = BAD", "back -1 = BAD", "back 1 = STATE");
    }
}
