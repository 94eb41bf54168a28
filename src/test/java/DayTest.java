import java.util.Arrays;

/** The terms: CORNERS, STREETS, MINUTES, MEN, WALKS, READERS, RAIN, and the day they make; each sentence by itself. */
public final class DayTest {
    private static final int NONE = -4;
    /** thin 4 is at 0 in even minutes, at 1 in odd ones. */
    private static final String THIN = "street 0 1;thin 4 0 1;";
    /** Two thin ones with one news: at 0 and at 1 each minute but the first shows one's front, the other's back. */
    private static final String BOTH = "street 0 1;thin 4 0 1;thin 4 1 0;";
    private static final String RING = "street 0 1;street 1 2;street 2 3;street 3 0;street 2 0;";

    private final Due due = new Due();

    public static void main(String[] args) {
        DayTest t = new DayTest();
        t.answers();
        t.corners();
        t.streets();
        t.minutes();
        t.menKindsNews();
        t.walks();
        t.readers();
        t.rainBounds();
        t.pace();
        t.whereHeIs();
        t.roundEachWalk();
        t.front();
        t.backSide();
        t.rainIsWet();
        t.readerIsThere();
        t.knowsBy();
        t.whole();
        t.pairs();
        t.fractions();
        t.due.finish("DayTest");
    }

    private Run run(String sentence, String text, String... rows) {
        return Run.of(due, sentence, text, rows);
    }

    private void answers() {
        due.is("BAD", BoardPress.BAD, -1);
        due.is("STATE", BoardPress.STATE, -2);
        due.is("FULL", BoardPress.FULL, -3);
        due.is("NONE", BoardPress.NONE, -4);
    }

    private void corners() {
        String text = "street 0 1;old 1 5;reader 0 0 0;";
        for (int c = 0; c < 8; c++) {
            int next = (c + 1) % 8;
            run("CORNERS are 0 to 7", "street " + c + " " + next + ";old 1 " + c + ";reader " + c + " 0 0;",
                "street 0 0 = " + c, "street 0 1 = " + next, "walk 0 0 = " + c, "at 0 0 = " + c, "reader 0 0 = " + c,
                "reads 0 0 0 = 1");
            run("CORNERS are 0 to 7 in what is changed", text, "pave " + c + " " + next + " = 2", "street 1 0 = " + c,
                "street 1 1 = " + next, "detour 0 0 " + c + " = 5", "walk 0 0 = " + c, "stand 0 0 " + c + " = 0",
                "reader 0 0 = " + c);
        }
        for (String c : new String[] {"-1", "8", "MIN", "MAX"}) {
            run("no CORNER is below 0, above 7", text, "pave " + c + " 1 = BAD", "pave 1 " + c + " = BAD",
                "detour 0 0 " + c + " = BAD", "stand 0 0 " + c + " = BAD");
        }
    }

    private void streets() {
        run("STREETS: none", "", "rule 1 = 0", "street 0 0 = BAD");
        run("STREETS: one", "street 3 4;", "rule 1 = 1", "street 0 0 = 3", "street 0 1 = 4", "street 1 0 = BAD");
        run("STREETS: 9 at most, of a text", "street 0 1;".repeat(8) + "street 6 7;", "rule 1 = 9", "street 8 0 = 6",
            "street 8 1 = 7", "street 9 0 = BAD", "pave 1 2 = FULL", "rule 1 = 9");
        run("STREETS: 9 at most, of both", "street 0 1;".repeat(8), "pave 6 7 = 9", "pave 1 2 = FULL", "street 8 0 = 6",
            "street 9 0 = BAD");
        run("STREETS: 9 at most, paved", "", "pave 0 1 = 1", "pave 1 0 = 2", "pave 0 1 = 3", "pave 0 1 = 4", "pave 0 1 = 5",
            "pave 0 1 = 6", "pave 0 1 = 7", "pave 0 1 = 8", "pave 5 6 = 9", "pave 0 1 = FULL", "street 8 1 = 6");
        run("STREETS by order", "street 5 4;street 0 7;street 2 1;", "pave 6 3 = 4", "street 0 0 = 5", "street 0 1 = 4",
            "street 1 0 = 0", "street 1 1 = 7", "street 2 0 = 2", "street 2 1 = 1", "street 3 0 = 6", "street 3 1 = 3");
        run("a STREET is for both ways", "street 1 0;street 1 2;old 1 1 2;", "detour 0 1 0 = 2", "detour 0 0 1 = 1");
        run("a STREET that is paved is one", "street 0 1;old 1 0 1;", "detour 0 1 2 = STATE", "pave 2 0 = 2",
            "detour 0 1 2 = 1");
    }

    private void minutes() {
        String text = THIN + "reader 0 0 59;";
        for (int t = 0; t < 60; t++) {
            run("MINUTES are 0 to 59", text, "at 0 " + t + " = " + t % 2, "reads 0 " + t + " 0 = " + (1 - t % 2),
                "knows 0 " + t + " 0 = 16", "stand 0 2 " + t + " = 59", "stand 0 1 " + t + " = 0", "rain " + t + " " + t + " = 0",
                "see 0 4 " + t + " true = 1", "reader 0 1 = " + t, "reader 0 2 = " + t, "rule 3 = " + t, "rule 4 = " + t);
        }
        for (String t : new String[] {"-1", "60", "MIN", "MAX"}) {
            run("no MINUTE is below 0, above 59", text, "at 0 " + t + " = BAD", "reads 0 " + t + " 0 = BAD",
                "reads 0 " + t + " 1 = BAD", "knows 0 " + t + " 0 = BAD", "knows 0 " + t + " 1 = BAD",
                "knows 0 " + t + " 2 = BAD", "stand 0 1 " + t + " = BAD", "stand 0 2 " + t + " = BAD", "rain " + t + " 1 = BAD",
                "rain 1 " + t + " = BAD", "see 0 4 " + t + " true = BAD");
        }
    }

    private void menKindsNews() {
        run("MEN: none", "", "rule 0 = 0", "man 0 0 = BAD", "count 4 = 0");
        run("MEN: one", "stout 7 3;", "rule 0 = 1", "man 0 0 = 2", "man 0 1 = 7", "man 1 0 = BAD", "man -1 0 = BAD");
        run("MEN: 4 at most, by order", "old 9 1;plain 8 2;stout 7 3;thin 0 4;", "rule 0 = 4", "man 0 0 = 3", "man 1 0 = 0",
            "man 2 0 = 2", "man 3 0 = 1", "man 0 1 = 9", "man 1 1 = 8", "man 2 1 = 7", "man 3 1 = 0", "walk 3 0 = 4",
            "man 4 0 = BAD", "man MIN 0 = BAD", "man MAX 0 = BAD");
        for (int v = 0; v < 10; v++) {
            run("NEWS are 0 to 9", "old " + v + " 1;reader 1 0 0;", "man 0 1 = " + v, "knows 0 0 0 = " + (1 << v),
                "alter 0 1 " + v + " = " + v, "first 0 " + v + " = NONE", "all " + v + " = 0", "see 0 " + v + " 0 false = 1");
        }
        for (String v : new String[] {"-1", "10", "MIN", "MAX"}) {
            run("no NEWS is below 0, above 9", THIN + "reader 0 0 59;", "alter 0 1 " + v + " = BAD", "first 0 " + v + " = BAD",
                "all " + v + " = BAD", "late 0 " + v + " = BAD", "soon 0 " + v + " = BAD", "luck 3 0 " + v + " 0 = BAD",
                "see 0 " + v + " 0 true = BAD");
        }
        for (int v = 0; v < 4; v++) {
            run("KINDS are 0 to 3", THIN, "alter 0 0 " + v + " = 1", "man 0 0 = " + v);
        }
        for (String v : new String[] {"-1", "4", "MIN", "MAX"}) {
            run("no KIND is below 0, above 3", THIN, "alter 0 0 " + v + " = BAD", "man 0 0 = 1");
        }
    }

    private void walks() {
        run("a WALK has 1 CORNER at least", "old 1 7;", "man 0 3 = 1", "walk 0 0 = 7", "walk 0 1 = BAD", "count 4 = 1");
        run("a WALK has 4 CORNERS at most", RING + "old 1 0 1 2 3;", "man 0 3 = 4", "walk 0 3 = 3", "walk 0 4 = BAD",
            "count 4 = 4");
        run("a WALK's CORNERS by order", RING + "old 1 2;old 1 3 2;old 1 2 0 3;old 1 3 0 1 2;", "man 0 3 = 1", "man 1 3 = 2",
            "man 2 3 = 3", "man 3 3 = 4", "walk 2 0 = 2", "walk 2 1 = 0", "walk 2 2 = 3", "walk 2 3 = BAD", "walk 1 2 = BAD",
            "walk 3 3 = 2", "count 4 = 10");
        run("one CORNER twice in a WALK", RING + "thin 1 0 1 0 3;", "at 0 0 = 0", "at 0 1 = 1", "at 0 2 = 0", "at 0 3 = 3",
            "at 0 4 = 0");
    }

    private void readers() {
        run("READERS: none", "", "rule 2 = 0", "reader 0 0 = BAD", "count 5 = 0");
        run("READERS: one", "reader 7 59 59;", "rule 2 = 1", "reader 0 0 = 7", "reader 0 1 = 59", "reader 0 2 = 59",
            "reader 1 0 = BAD", "reader -1 0 = BAD", "count 5 = 1");
        run("READERS: 4 at most, by order", "reader 1 2 3;reader 4 5 6;reader 7 8 9;reader 0 0 59;", "rule 2 = 4",
            "reader 0 0 = 1", "reader 1 1 = 5", "reader 2 2 = 9", "reader 3 2 = 59", "reader 4 0 = BAD", "reader MAX 0 = BAD",
            "reader MIN 0 = BAD", "count 5 = 66");
        run("UNTIL is no less than FROM", "reader 0 10 20;", "stand 0 1 20 = 10", "stand 0 1 21 = BAD", "stand 0 2 19 = BAD",
            "stand 0 2 20 = 20", "stand 0 1 19 = 20", "stand 0 2 19 = 20", "stand 0 2 18 = BAD", "count 5 = 1");
    }

    private void rainBounds() {
        run("RAIN is 0, 0 at first", "", "rule 3 = 0", "rule 4 = 0");
        run("RAIN: 0 to 59 each", "", "rain 0 0 = 0", "rain 59 59 = 0", "rule 3 = 59", "rule 4 = 59", "rain 60 0 = BAD",
            "rain 0 60 = BAD", "rain -1 0 = BAD", "rain 0 -1 = BAD", "rain MAX MAX = BAD", "rain MIN MIN = BAD", "rule 3 = 59",
            "rule 4 = 59", "rain 0 1 = 59");
    }

    private void pace() {
        run("PACE: plain 2, thin 1, stout 3, old 6", "plain 1 1;thin 1 1;stout 1 1;old 1 1;", "man 0 2 = 2", "man 1 2 = 1",
            "man 2 2 = 3", "man 3 2 = 6");
        run("7: MINUTES in which he is AT a CORNER", "plain 1 1;thin 1 1;stout 1 1;old 1 1;", "man 0 4 = 30", "man 1 4 = 60",
            "man 2 4 = 20", "man 3 4 = 10", "rain 0 59", "man 1 4 = 60");
    }

    private void whereHeIs() {
        run("a MAN begins AT the first CORNER", RING + "plain 1 3 2;thin 1 2 1;stout 1 1 0;old 1 0 3;", "at 0 0 = 3",
            "at 1 0 = 2", "at 2 0 = 1", "at 3 0 = 0");
        run("AT the next one as many MINUTES behind as his PACE is", RING + "plain 1 3 2;thin 1 2 1;stout 1 1 0;old 1 0 3;",
            "at 0 2 = 2", "at 1 1 = 1", "at 2 3 = 0", "at 3 6 = 3");
        run("between these AT none", RING + "plain 1 3 2;stout 1 1 0;old 1 0 3;", "at 0 1 = NONE", "at 0 3 = NONE",
            "at 1 1 = NONE", "at 1 2 = NONE", "at 1 4 = NONE", "at 2 1 = NONE", "at 2 5 = NONE", "at 2 7 = NONE");
        run("the last MINUTES", RING + "plain 1 3 2;thin 1 2 1;stout 1 1 0;old 1 0 3;", "at 0 58 = 2", "at 0 59 = NONE",
            "at 1 59 = 1", "at 2 57 = 0", "at 2 58 = NONE", "at 3 54 = 3", "at 3 55 = NONE", "at 3 59 = NONE");
    }

    /** Each KIND on a WALK of each length, all MINUTES: behind the last CORNER comes the first. */
    private void roundEachWalk() {
        String[] kinds = {"plain", "thin", "stout", "old"};
        int[] pace = {2, 1, 3, 6};
        int[][] walks = {{5}, {0, 1}, {2, 3, 0}, {3, 2, 1, 0}};
        for (int kind = 0; kind < 4; kind++) {
            for (int[] walk : walks) {
                String path = Arrays.toString(walk).replaceAll("[\\[\\],]", "");
                Run run = run("round: " + kinds[kind] + " " + path, RING + kinds[kind] + " 1 " + path + ";");
                for (int t = 0; t < 60; t++) {
                    run.is("at 0 " + t, t % pace[kind] == 0 ? walk[t / pace[kind] % walk.length] : NONE);
                }
            }
        }
    }

    private void front() {
        run("FRONT: READERS who are there, in a MINUTE in which he is AT a CORNER", "street 0 1;plain 4 0 1;reader 0 0 59;"
            + "reader 1 0 59;reader 2 0 59;", "reads 0 0 0 = 1", "reads 1 0 0 = 0", "reads 2 0 0 = 0", "reads 0 1 0 = 0",
            "reads 1 1 0 = 0", "reads 0 2 0 = 0", "reads 1 2 0 = 1", "reads 2 2 0 = 0", "reads 0 4 0 = 1");
        run("FRONT: in MINUTE 0, too", "old 4 6;reader 6 0 0;", "reads 0 0 0 = 1", "knows 0 0 0 = 16");
        run("FRONT: of one CORNER's WALK each time he is AT it", "old 4 6;reader 6 0 59;", "reads 0 0 0 = 1", "reads 0 1 0 = 0",
            "reads 0 5 0 = 0", "reads 0 6 0 = 1", "reads 0 54 0 = 1", "reads 0 59 0 = 0");
        run("18: all four MEN, none", "thin 1 6;plain 2 6;stout 3 6;old 4 6;reader 6 0 59;reader 5 0 59;", "reads 0 0 0 = 15",
            "reads 0 1 0 = 1", "reads 0 2 0 = 3", "reads 0 3 0 = 5", "reads 0 6 0 = 15", "reads 1 0 0 = 0");
    }

    private void backSide() {
        run("BACK: at the CORNER AT which he was last, when he is AT the next one", "street 0 1;plain 4 0 1;reader 0 0 59;"
            + "reader 1 0 59;reader 2 0 59;", "reads 0 1 1 = 0", "reads 0 2 1 = 1", "reads 1 2 1 = 0", "reads 2 2 1 = 0",
            "reads 0 3 1 = 0", "reads 0 4 1 = 0", "reads 1 4 1 = 1");
        run("BACK: not in MINUTE 0", THIN + "reader 0 0 0;reader 1 0 0;", "reads 0 0 1 = 0", "reads 1 0 1 = 0",
            "knows 0 59 1 = 0", "knows 1 59 1 = 0");
        run("BACK: in MINUTE 1, of thin ones", THIN + "reader 0 1 1;reader 1 1 1;", "reads 0 1 1 = 1", "reads 1 1 1 = 0",
            "knows 0 1 1 = 16");
        run("BACK: he whose WALK has one CORNER shows none", "thin 4 6;reader 6 0 59;", "reads 0 0 1 = 0", "reads 0 1 1 = 0",
            "reads 0 59 1 = 0", "knows 0 59 1 = 0", "knows 0 59 0 = 16", "knows 0 59 2 = 0", "first 0 4 = NONE");
        run("BACK: he whose WALK has two CORNERS does", THIN + "reader 0 0 59;", "reads 0 1 1 = 1", "reads 0 59 1 = 1");
        run("BACK: of the last CORNER, when he is AT the first again", RING + "thin 4 0 1 2 3;reader 3 0 59;", "reads 0 3 1 = 0",
            "reads 0 4 1 = 1", "reads 0 0 1 = 0", "reads 0 8 1 = 1", "reads 0 3 0 = 1");
        run("BACK: in the last MINUTE", RING + "thin 4 0 1 2;reader 1 59 59;", "reads 0 59 1 = 1", "at 0 59 = 2");
        run("18: BACKS of all four MEN", THIN + "thin 1 0 1;thin 2 0 1;thin 3 0 1;reader 0 0 59;", "reads 0 1 1 = 15",
            "reads 0 1 0 = 0", "reads 0 2 0 = 15", "reads 0 2 1 = 0");
    }

    private void rainIsWet() {
        String text = BOTH + "reader 0 0 59;";
        Run five = run("RAIN from the MINUTE told on, as many as told", text, "rain 20 5");
        for (int t : new int[] {18, 19, 20, 21, 22, 23, 24, 25, 26}) {
            boolean wet = t >= 20 && t < 25;
            five.is("reads 0 " + t + " 0", wet ? 0 : t % 2 == 0 ? 1 : 2);
            five.is("reads 0 " + t + " 1", wet ? 0 : t % 2 == 0 ? 2 : 1);
        }
        run("RAIN for none is none", text, "rain 20 0", "reads 0 20 0 = 1", "reads 0 19 0 = 2", "reads 0 21 0 = 2");
        run("RAIN for one MINUTE", text, "rain 20 1", "reads 0 19 0 = 2", "reads 0 20 0 = 0", "reads 0 21 0 = 2");
        run("RAIN in MINUTE 0", text, "rain 0 1", "reads 0 0 0 = 0", "reads 0 1 0 = 2");
        run("RAIN in MINUTE 59", text, "rain 59 1", "reads 0 58 0 = 1", "reads 0 59 0 = 0");
        run("RAIN till the day's end, no next day", text, "rain 59 59", "reads 0 59 0 = 0", "reads 0 58 0 = 1",
            "reads 0 0 0 = 1", "reads 0 57 0 = 2");
        run("RAIN from 30 for 59", text, "rain 30 59", "reads 0 29 0 = 2", "reads 0 30 0 = 0", "reads 0 59 0 = 0",
            "reads 0 0 0 = 1", "reads 0 28 0 = 1");
        run("RAIN for most of the day", text, "rain 0 59", "reads 0 58 0 = 0", "reads 0 59 0 = 2", "reads 0 59 1 = 1",
            "rain 1 59", "reads 0 0 0 = 1", "reads 0 1 0 = 0", "reads 0 59 0 = 0");
        run("in RAIN he is AT his CORNER", text, "rain 0 59", "at 0 0 = 0", "at 0 7 = 1", "meet 0 1 = NONE");
    }

    private void readerIsThere() {
        run("a READER is there FROM, not a MINUTE sooner", BOTH + "reader 0 20 24;", "reads 0 19 0 = 0", "reads 0 19 1 = 0",
            "reads 0 20 0 = 1", "reads 0 20 1 = 2");
        run("a READER is there UNTIL, that one too, not a MINUTE later", BOTH + "reader 0 20 24;", "reads 0 24 0 = 1",
            "reads 0 24 1 = 2", "reads 0 25 0 = 0", "reads 0 25 1 = 0");
        run("a READER of one MINUTE", BOTH + "reader 0 20 20;", "reads 0 19 0 = 0", "reads 0 20 0 = 1", "reads 0 21 0 = 0",
            "count 5 = 1");
        run("a READER of all MINUTES", BOTH + "reader 0 0 59;", "reads 0 0 0 = 1", "reads 0 59 0 = 2", "count 5 = 60");
        run("a READER of the first MINUTE", BOTH + "reader 0 0 0;", "reads 0 0 0 = 1", "reads 0 1 0 = 0", "count 5 = 1");
        run("a READER of the last MINUTE", BOTH + "reader 0 59 59;", "reads 0 58 0 = 0", "reads 0 59 0 = 2", "count 5 = 1");
    }

    private void knowsBy() {
        run("KNOWS by a MINUTE: in it or before", "street 0 1;old 4 0 1;reader 0 1 59;", "knows 0 5 1 = 0", "knows 0 6 1 = 16",
            "knows 0 7 1 = 16", "knows 0 11 0 = 0", "knows 0 12 0 = 16", "knows 0 59 0 = 16");
        run("KNOWS WHOLE, if both", "street 0 1;old 4 0 1;reader 0 1 59;", "knows 0 6 2 = 0", "knows 0 11 2 = 0",
            "knows 0 12 2 = 16", "knows 0 59 2 = 16", "first 0 4 = 12");
        run("KNOWS still when he is there no more", "street 0 1;old 4 0 1;reader 0 1 12;", "knows 0 59 2 = 16",
            "knows 0 13 2 = 16", "knows 0 12 2 = 16", "knows 0 11 2 = 0");
        run("KNOWS none when he is there too short", "street 0 1;old 4 0 1;reader 0 7 11;", "knows 0 59 0 = 0",
            "knows 0 59 1 = 0", "knows 0 59 2 = 0");
        run("KNOWS by MINUTE 0", THIN + "reader 0 0 59;", "knows 0 0 0 = 16", "knows 0 0 1 = 0", "knows 0 0 2 = 0",
            "knows 0 1 2 = 16");
        run("KNOWS by MINUTE 59 what is read in it", THIN + "reader 0 58 59;", "knows 0 58 2 = 0", "knows 0 59 2 = 16",
            "first 0 4 = 59", "all 4 = 1", "rule 5 = 1");
        run("KNOWS what he has not read, in RAIN", THIN + "reader 0 58 59;rain 59 1;", "knows 0 59 2 = 0", "knows 0 59 0 = 16",
            "first 0 4 = NONE", "all 4 = 0", "rule 5 = 0");
        run("NEWS 0 and NEWS 9", "street 0 1;thin 0 0 1;thin 9 0 1;reader 0 0 59;", "knows 0 0 0 = 513", "knows 0 1 1 = 513",
            "knows 0 1 2 = 513", "first 0 0 = 1", "first 0 9 = 1");
    }

    private void whole() {
        String halves = "street 0 1;plain 1 0;old 2 0 1;reader 0 1 11;";
        run("WHOLE: the FRONT of one MAN, the BACK of another with that NEWS", halves, "knows 0 59 0 = 2", "knows 0 59 1 = 4",
            "knows 0 59 2 = 0", "alter 0 1 2 = 1", "knows 0 59 2 = 4", "knows 0 5 2 = 0", "knows 0 6 2 = 4", "first 0 2 = 6");
        run("WHOLE in one MINUTE, of two MEN", BOTH + "reader 0 1 1;reader 0 0 0;", "first 0 4 = 1", "knows 0 1 2 = 16",
            "first 1 4 = NONE", "rule 5 = 1");
    }

    private void pairs() {
        String four = "street 0 1;thin 1 0 1;thin 2 1 0;thin 3 0 1;thin 4 1 0;";
        run("PAIRS: none", "", "rule 5 = 0");
        run("PAIRS: MEN, no READERS", THIN, "rule 5 = 0");
        run("PAIRS: READERS, no MEN", "reader 0 0 59;", "rule 5 = 0");
        run("PAIRS: one", THIN + "reader 0 0 59;", "rule 5 = 1");
        run("PAIRS: as many as there may be", four + "reader 0 0 59;reader 1 0 59;reader 0 1 9;reader 1 8 9;", "rule 5 = 16",
            "keep 0", "back 0 = 16", "mean 0 0 = 16", "best 0 1 = 4");
        run("PAIRS: of NEWS, not of MEN", BOTH + "reader 0 0 59;reader 1 0 59;", "rule 5 = 2");
    }

    private void fractions() {
        String text = BOTH + "reader 0 0 59;";
        run("fractions in lowest terms", text, "luck 5 0 4 0 = 3", "luck 5 0 4 1 = 4", "luck 2 0 4 0 = 24", "luck 2 0 4 1 = 25",
            "mean 8 0 = 9", "mean 8 1 = 25");
        run("0 is 0 by 1", text, "luck 10 0 4 0 = 0", "luck 10 0 4 1 = 1", "luck 5 0 5 0 = 0", "luck 5 0 5 1 = 1",
            "mean 10 0 = 0", "mean 10 1 = 1");
        run("1 is 1 by 1", text, "luck 0 0 4 0 = 1", "luck 0 0 4 1 = 1", "mean 0 0 = 1", "mean 0 1 = 1");
        run("0 is 0 by 1, without MEN", "reader 0 0 59;", "luck 0 0 4 0 = 0", "luck 0 0 4 1 = 1", "luck 10 0 4 1 = 1",
            "mean 0 0 = 0", "mean 0 1 = 1", "mean 10 1 = 1");
        run("the greatest denominator", THIN + "thin 4 1 0;thin 4 0 1;thin 4 1 0;reader 0 0 59;", "luck 3 0 4 0 = 9919",
            "luck 3 0 4 1 = 10000", "luck 9 0 4 0 = 3439", "luck 9 0 4 1 = 10000", "luck 1 0 4 0 = 9999");
        run("a mean above 1", THIN + "thin 5 1 0;thin 6 0 1;thin 7 1 0;reader 0 0 59;reader 1 0 59;", "mean 1 0 = 36",
            "mean 1 1 = 5", "mean 5 0 = 4", "mean 5 1 = 1");
    }
}
