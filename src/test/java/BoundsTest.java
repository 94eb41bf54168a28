/**
 * Each number of each call: the last value that is taken and the first that is not, on both sides, where there
 * is none, one, and as many as there may be. Run looks that a call that is BAD leaves all as it was.
 */
public final class BoundsTest {
    /** Four MEN whose WALKS have 1, 2, 3, 4 CORNERS, four READERS. */
    private static final String MANY = "street0 1;street1 2;street2 0;street2 3;street3 0;plain1 5;thin2 0 1;stout3 0 1 2;"
        + "old4 0 1 2 3;reader0 0 59;reader1 3 40;reader2 0 9;reader3 58 59;rain12 4;";
    private static final String[] FILLED = {"pave 4 5", "keep 0", "alter 1 1 7", "keep 1", "see 0 3 9 true", "see 1 2 5 false",
        "see 0 3 8 false", "sheet 0 0 6", "sheet 1 1 4", "sheet 2 2 0", "lay 0 0 3", "lay 0 1 2", "lay 0 2 1", "lay 0 3 1",
        "lay 1 3 2", "type rain 3 4;"};

    /** A number that is taken, its least and its most; * for one without bounds; alone if another row has them. */
    private static final String[] MANY_CALLS = {"feed 59:0..127", "end 4:0..9", "rule 2:0..5", "man 1:0..3 2:0..4",
        "walk 1:0..3 0", "walk 0 0:0..0", "walk 1:1..3 1:0..1", "walk 2:2..3 2:0..2", "walk 3:3..3 3:0..3",
        "street 2:0..5 0:0..1", "reader 1:0..3 1:0..2", "alter 1:0..3 0:0..1 2:0..3", "alter 1:0..3 1:0..1 3",
        "alter 1 1 5:0..9", "detour 2:0..3 0 0", "detour 0 0:0..0 3:0..7", "detour 1:1..3 1:0..1 1:0..7",
        "detour 2:2..3 2:0..2 2:0..7", "detour 3:3..3 3:0..3 3:0..7", "shift 0:0..3 0", "shift 0 0:0..0", "shift 1:1..3 1:0..1",
        "shift 2:2..3 2:0..2", "shift 3:3..3 3:0..3", "stand 1:0..3 0 3:0..7", "stand 0 1:0..2 3", "stand 1 1 9:0..40",
        "stand 1 2 9:3..59", "stand 3 1 58:0..59", "stand 3 2 59:58..59", "rain 5:0..59 6:0..59", "pave 3:0..7 4",
        "pave 4 3:0..7", "at 1:0..3 30:0..59", "reads 1:0..3 30:0..59 0:0..1", "knows 1:0..3 30:0..59 1:0..2",
        "first 1:0..3 4:0..9", "all 4:0..9", "meet 0:0..2 3", "meet 3:1..3 0", "meet 3 0:0..2", "meet 0 3:1..3",
        "best 1:0..3 0:0..1", "late 1:0..3 4:0..9", "soon 1:0..3 4:0..9", "begin 1:0..3 0:0..1", "kind 1:0..3 0:0..1",
        "swap 0:0..1", "spoil 9:1..59 0:0..1", "luck 5:0..10 1:0..3 4:0..9 0:0..1", "mean 5:0..10 0:0..1",
        "see 1:0..3 4:0..9 30:0..59 true", "see 1:0..3 4:0..9 30:0..59 false", "forget 2:0..3", "kinds 1:0..3", "news 1:0..3",
        "ask 1:0..3 0:0..1", "drift 5:* 9:1..60 0:0..1", "keep 1:0..1", "back 1:0..1", "sheet 1:0..3 1:0..2 9:..40",
        "lay 0:0..3 0:* 5:*", "read 0:0..3 0:0..2 0:* 1:0..20", "count 2:0..5"};
    private static final String ONE = "street 0 1;plain 4 0;reader 0 0 0;";
    private static final String[] ONE_CALLS = {"end 0:0..0", "man 0:0..0 2:0..4", "walk 0:0..0 0:0..0", "street 0:0..0 0:0..1",
        "reader 0:0..0 1:0..2", "alter 0:0..0 0:0..1 2:0..3", "detour 0:0..0 0:0..0 3:0..7", "shift 0:0..0 0:0..0",
        "stand 0:0..0 0:0..0 3:0..7", "stand 0 1 0:0..0", "stand 0 2 9:0..59", "at 0:0..0 30:0..59",
        "reads 0:0..0 30:0..59 0:0..1", "knows 0:0..0 30:0..59 1:0..2", "first 0:0..0 4:0..9", "best 0:0..0 0:0..1",
        "late 0:0..0 4:0..9", "soon 0:0..0 4:0..9", "begin 0:0..0 0:0..1", "kind 0:0..0 0:0..1", "swap 0:0..1",
        "spoil 9:1..59 0:0..1", "luck 5:0..10 0:0..0 4:0..9 0:0..1", "see 0:0..0 4:0..9 30:0..59 true", "forget 0:0..0",
        "kinds 0:0..0", "news 0:0..0", "ask 0:0..0 0:0..1", "drift 5:* 9:1..60 0:0..1", "keep 1:0..1", "back 0:0..1"};
    private static final String[] NONE_CALLS = {"feed 59:0..127", "end 0:0..0", "rule 2:0..5", "rain 5:0..59 6:0..59",
        "pave 3:0..7 4", "pave 4 3:0..7", "all 4:0..9", "swap 0:0..1", "spoil 9:1..59 0:0..1", "mean 5:0..10 0:0..1", "forget 0:0..0",
        "drift 5:* 9:1..60 0:0..1", "keep 1:0..1", "back 0:0..1", "sheet 1:0..3 1:0..2 9:..40", "lay 0:0..3 0:* 5:*",
        "read 0:0..3 0:0..2 0:* 1:0..20", "count 2:0..5"};
    /** What a new object answers to calls of a MAN, a READER, a STREET, since there is none. */
    private static final String[] NO_SUCH = {"man 0 0", "walk 0 0", "street 0 0", "reader 0 0", "alter 0 0 0", "detour 0 0 0",
        "shift 0 0", "stand 0 0 0", "at 0 0", "reads 0 0 0", "knows 0 0 0", "first 0 0", "meet 0 1", "best 0 0", "late 0 0",
        "soon 0 0", "begin 0 0", "kind 0 0", "luck 0 0 0 0", "see 0 0 0 true", "see 0 0 0 false", "kinds 0", "news 0", "ask 0 0",
        "end 1", "forget 1"};

    private final Due due = new Due();

    public static void main(String[] args) {
        BoundsTest t = new BoundsTest();
        for (String call : MANY_CALLS) {
            t.bounds("many", MANY, FILLED, call);
        }
        for (String call : ONE_CALLS) {
            t.bounds("one", ONE, new String[0], call);
        }
        for (String call : NONE_CALLS) {
            t.bounds("none", "", new String[0], call);
        }
        for (String call : NO_SUCH) {
            Run.of(t.due, "none", "").is(call, -1);
        }
        t.due.finish("BoundsTest");
    }

    private void bounds(String state, String text, String[] rows, String call) {
        String[] words = call.split(" ");
        String[] base = new String[words.length];
        for (int i = 0; i < words.length; i++) {
            base[i] = words[i].split(":")[0];
        }
        for (int i = 1; i < words.length; i++) {
            String bound = words[i].contains(":") ? words[i].split(":")[1] : "";
            if (bound.equals("*")) {
                for (String v : new String[] {"MIN", "-1", "0", "1", "MAX"}) {
                    taken(state, text, rows, base, i, v);
                }
            } else if (bound.contains("..")) {
                int sign = bound.indexOf("..");
                side(state, text, rows, base, i, bound.substring(0, sign), -1);
                side(state, text, rows, base, i, bound.substring(sign + 2), 1);
            }
        }
    }

    /** One side of a number's bounds; n of sheet() has but one that makes it BAD. */
    private void side(String state, String text, String[] rows, String[] base, int i, String last, int step) {
        if (last.isEmpty()) {
            return;
        }
        int bound = Integer.parseInt(last);
        taken(state, text, rows, base, i, last);
        bad(state, text, rows, base, i, String.valueOf(bound + step));
        bad(state, text, rows, base, i, step < 0 ? "MIN" : "MAX");
    }

    private static String with(String[] base, int i, String v) {
        String[] words = base.clone();
        words[i] = v;
        return String.join(" ", words);
    }

    private void taken(String state, String text, String[] rows, String[] base, int i, String v) {
        String call = with(base, i, v);
        Run run = Run.of(due, state + ", number " + i, text, rows);
        due.is(state + ": " + call + " is taken", run.asked(call) == -1 ? 0 : 1, 1);
    }

    private void bad(String state, String text, String[] rows, String[] base, int i, String v) {
        Run.of(due, state + ", number " + i + " is not as told", text, rows).is(with(base, i, v), -1);
    }
}
