import java.lang.reflect.Method;
import java.util.ArrayList;
import java.util.List;
import java.util.Random;

/** Long runs of drawn calls, each answered by BoardPress and by PlainPress alike. */
public final class ModelTest {
    private static final int RUNS = 400, CALLS = 512;

    /** A call and the bounds of its numbers, least and most one behind another; b is a boolean. */
    private static final String[] CALL_BOUNDS = {
        "feed 0 127", "end 0 8", "text", "fault", "rule 0 5", "man 0 3 0 4", "walk 0 3 0 3", "street 0 8 0 1",
        "reader 0 3 0 2", "alter 0 3 0 1 0 9", "detour 0 3 0 3 0 7", "shift 0 3 0 3", "stand 0 3 0 2 0 59",
        "stand 0 3 0 0 0 7", "rain 0 59 0 59", "rain 0 59 0 4", "pave 0 7 0 7", "at 0 3 0 59", "reads 0 3 0 59 0 1",
        "knows 0 3 0 59 0 2", "first 0 3 0 9", "all 0 9", "meet 0 3 0 3", "best 0 3 0 1", "late 0 3 0 9",
        "soon 0 3 0 9", "begin 0 3 0 1", "kind 0 3 0 1", "swap 0 1", "spoil 1 59 0 1", "luck 0 10 0 3 0 9 0 1",
        "mean 0 10 0 1", "see 0 3 0 9 0 59 b", "forget 0 6", "kinds 0 3", "news 0 3", "ask 0 3 0 1",
        "drift -2147483648 2147483647 1 60 0 1", "keep 0 1", "back 0 1", "sheet 0 3 0 2 0 40", "lay 0 3 0 39 0 7",
        "lay 0 3 0 9 0 3", "lay 0 3 0 9 -70000 70000", "read 0 3 0 2 0 9 0 20", "read 0 3 0 2 0 2 0 3", "torn",
        "count 0 5"};

    private final Random random = new Random(20261118);
    private final Due due = new Due();
    private BoardPress press;
    private PlainPress plain;
    private List<String> run;
    private int callsLeft;

    public static void main(String[] args) throws Exception {
        ModelTest test = new ModelTest();
        for (int i = 0; i < RUNS && test.due.wrong() == 0; i++) {
            test.drawRun();
        }
        test.due.finish("ModelTest");
    }

    private void drawRun() throws Exception {
        press = new BoardPress();
        plain = new PlainPress();
        run = new ArrayList<>();
        callsLeft = CALLS;
        int texts = random.nextInt(3);
        while (callsLeft > 0) {
            if (random.nextInt(texts > 0 ? 12 : 150) == 0) {
                texts--;
                tellText(random.nextInt(3) == 0 ? spoiled(drawText()) : drawText());
            } else {
                drawCall();
            }
        }
    }

    private int between(int least, int most) {
        return (int) (least + Math.floorMod(random.nextLong(), (long) most - least + 1));
    }

    private void drawCall() throws Exception {
        String[] words = CALL_BOUNDS[random.nextInt(CALL_BOUNDS.length)].split(" ");
        if (words[0].equals("text") && random.nextInt(8) != 0) {
            return;
        }
        List<Object> numbers = new ArrayList<>();
        for (int i = 1; i < words.length; i++) {
            if (words[i].equals("b")) {
                numbers.add(random.nextBoolean());
            } else {
                numbers.add(drawNumber(Integer.parseInt(words[i]), Integer.parseInt(words[++i])));
            }
        }
        call(words[0], numbers.toArray());
    }

    private int drawNumber(int least, int most) {
        switch (random.nextInt(60)) {
            case 0: return least - 1;
            case 1: return most + 1;
            case 2: return Integer.MIN_VALUE;
            case 3: return Integer.MAX_VALUE;
            default: return between(least, most);
        }
    }

    private void call(String name, Object... numbers) throws Exception {
        if (callsLeft-- <= 0) {
            return;
        }
        Class<?>[] types = new Class<?>[numbers.length];
        for (int i = 0; i < numbers.length; i++) {
            types[i] = numbers[i] instanceof Boolean ? boolean.class : int.class;
        }
        Method ours = BoardPress.class.getMethod(name, types);
        Method theirs = PlainPress.class.getMethod(name, types);
        long got = ((Number) ours.invoke(press, numbers)).longValue();
        long want = ((Number) theirs.invoke(plain, numbers)).longValue();
        run.add(name + List.of(numbers) + " = " + want);
        due.is(name + List.of(numbers), got, want);
        if (got != want) {
            System.out.println("  in the run " + run);
            callsLeft = 0;
        }
    }

    private void tellText(String text) throws Exception {
        call("end", 0);
        for (int i = 0; i < text.length(); i++) {
            call("feed", (int) text.charAt(i));
        }
        call("text");
        call("fault");
    }

    /** A ring of streets with chords, walks that mostly keep to them, readers, rain. */
    private String drawText() {
        List<String> lines = new ArrayList<>();
        int ring = between(2, 4);
        for (int c = 0; c < ring; c++) {
            lines.add("street " + c + " " + (c + 1) % ring + ";");
        }
        int men = random.nextInt(5), readers = random.nextInt(5);
        for (int m = 0; m < men; m++) {
            lines.add(drawMan(ring));
        }
        for (int r = 0; r < readers; r++) {
            int from = random.nextInt(60);
            from = random.nextBoolean() ? from / 6 : from;
            lines.add("reader " + random.nextInt(ring + 1) + " " + from + " " + between(from, 59) + ";");
        }
        if (random.nextBoolean()) {
            lines.add("rain " + random.nextInt(60) + " " + random.nextInt(20) + ";");
        }
        java.util.Collections.shuffle(lines, random);
        StringBuilder text = new StringBuilder();
        for (String line : lines) {
            if (text.length() + line.length() <= 160) {
                text.append(line);
            }
        }
        return text.toString();
    }

    private String drawMan(int ring) {
        String[] kinds = {"plain", "thin", "stout", "old"};
        StringBuilder line = new StringBuilder(kinds[random.nextInt(4)] + " " + random.nextInt(random.nextBoolean() ? 3 : 10));
        int start = random.nextInt(ring);
        int corners = random.nextInt(3) == 0 ? ring : random.nextInt(2) + 1;
        boolean backwards = random.nextBoolean();
        for (int i = 0; i < corners; i++) {
            line.append(' ').append(Math.floorMod(start + (backwards ? -i : i), ring));
        }
        return line.append(';').toString();
    }

    private String spoiled(String text) {
        StringBuilder spoiled = new StringBuilder(text);
        String signs = " ;0123456789abtrain8A&";
        for (int i = random.nextInt(2); i >= 0; i--) {
            int place = random.nextInt(spoiled.length() + 1);
            char sign = signs.charAt(random.nextInt(signs.length()));
            switch (random.nextInt(5)) {
                case 0: spoiled.insert(place, sign); break;
                case 1: spoiled.setLength(place); break;
                case 2: spoiled.append(text, 0, Math.min(text.length(), 40)); break;
                case 3: spoiled.append("rain 1 1;"); break;
                default:
                    if (place < spoiled.length()) {
                        spoiled.setCharAt(place, sign);
                    }
            }
        }
        return spoiled.toString();
    }
}
