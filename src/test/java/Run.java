import java.util.ArrayList;
import java.util.List;
import java.util.Set;

/**
 * A run of calls on a new object, row by row: "stand 0 1 21 = BAD". Each answer is held against the one that
 * is due, and against PlainPress; behind a row that is refused, or that but asks, all has to be as it was.
 */
final class Run {
    private static final Set<String> CHANGES = Set.of("feed", "end", "text", "alter", "detour", "shift", "stand",
        "rain", "pave", "see", "forget", "keep", "back", "sheet", "lay", "read");

    private final Due due;
    private final String sentence;
    private final List<String> calls = new ArrayList<>();
    private final Asked press = Asked.press(), plain = Asked.plain();

    private Run(Due due, String sentence) {
        this.due = due;
        this.sentence = sentence;
    }

    /** A sentence of the document, a text that is told ahead ("" for none), and the rows that show the sentence. */
    static Run of(Due due, String sentence, String text, String... rows) {
        Run run = new Run(due, sentence);
        if (!text.isEmpty()) {
            run.type(text);
            if (run.call("text") < 0) {
                throw new IllegalStateException("a test's own text has a fault: " + text);
            }
        }
        return run.then(rows);
    }

    /** Rows without an answer are called alone; "type rain 1 2;" feeds these bytes. */
    Run then(String... rows) {
        for (String row : rows) {
            int sign = row.lastIndexOf(" = ");
            if (row.startsWith("type ")) {
                type(row.substring(5));
            } else if (sign < 0) {
                call(row);
            } else {
                is(row.substring(0, sign), answer(row.substring(sign + 3)));
            }
        }
        return this;
    }

    /** The text's FAULT and its place, or 0 and how many lines it has. */
    Run tell(String text, int fault, int placeOrLines) {
        type(text);
        is("text", fault == 0 ? placeOrLines : -10 - placeOrLines);
        is("fault", fault);
        is("count 2", 0);
        return this;
    }

    private static long answer(String word) {
        switch (word) {
            case "BAD": return -1;
            case "STATE": return -2;
            case "FULL": return -3;
            case "NONE": return -4;
            default: return Long.parseLong(word);
        }
    }

    private void type(String text) {
        for (int i = 0; i < text.length(); i++) {
            call("feed " + (int) text.charAt(i));
        }
    }

    private long call(String call) {
        long got = press.ask(call);
        due.is(told(call) + " (PlainPress)", got, plain.ask(call));
        calls.add(call);
        return got;
    }

    private String told(String call) {
        return sentence + ": " + call;
    }

    Run is(String call, long want) {
        due.is(told(call), asked(call), want);
        return this;
    }

    long asked(String call) {
        List<String> ahead = new ArrayList<>(calls);
        long got = call(call);
        if (call.equals("text") && got < 0) {
            stays(call, withLast(ahead, "end 0"), calls, false);
        } else if (got < 0 || !CHANGES.contains(call.split(" ")[0])) {
            stays(call, ahead, calls, true);
        }
        return got;
    }

    private static List<String> withLast(List<String> ahead, String last) {
        List<String> all = new ArrayList<>(ahead);
        all.add(last);
        return all;
    }

    private void stays(String call, List<String> before, List<String> after, boolean faultToo) {
        for (Look look : Look.values()) {
            boolean alike = look.at(replayed(before), faultToo).equals(look.at(replayed(after), faultToo));
            due.is(told(call) + " leaves as it was: " + look, alike ? 1 : 0, 1);
        }
    }

    private static Asked replayed(List<String> calls) {
        Asked x = Asked.press();
        for (String call : calls) {
            x.ask(call);
        }
        return x;
    }
}
