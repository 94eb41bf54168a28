/** Each promise by itself: ordinary inputs, the edges, wrong inputs; the answers are worked out by hand. */
public final class PromisesTest {
    private static final int BAD = -1, STATE = -2, FULL = -3, NONE = -4;
    private static final int LOW = Integer.MIN_VALUE, HIGH = Integer.MAX_VALUE;

    /**
     * thin 4 is at 0 in even minutes, at 1 in odd ones; stout 5 is at 1 in 0, 6, 12 .., at 2 in 3, 9, 15 ..
     * Reader 0, at 1 in 4 .. 20: front of 4 in 5, 7 .., back in 4, 6 ..; front of 5 in 6, 12, 18, back in 9, 15.
     */
    private static final String TWO = "street 0 1;street 1 2;thin 4 0 1;stout 5 1 2;reader 1 4 20;reader 3 0 59;";
    /** The reader at 0 knows 3 whole by 2, 4, 6, 12 if the man is thin, plain, stout, old (as he is). */
    private static final String OLD = "street 0 1;old 3 1 0;reader 0 0 59;";
    /** Man 1 shows but a front (one corner), man 3 but a back while the reader is there. */
    private static final String HALVES = "street 0 1;plain 9 7;plain 1 0;plain 2 7;old 2 0 1;reader 0 1 11;";

    private final Due due = new Due();

    public static void main(String[] args) {
        PromisesTest t = new PromisesTest();
        t.newObject();
        t.feed();
        t.end();
        t.text();
        t.textTellsAll();
        t.fault();
        t.rule();
        t.man();
        t.walk();
        t.street();
        t.reader();
        t.alter();
        t.detour();
        t.shift();
        t.stand();
        t.rain();
        t.pave();
        t.at();
        t.reads();
        t.knows();
        t.first();
        t.all();
        t.meet();
        t.best();
        t.late();
        t.soon();
        t.begin();
        t.kind();
        t.swap();
        t.spoil();
        t.luck();
        t.mean();
        t.see();
        t.forget();
        t.kinds();
        t.news();
        t.ask();
        t.drift();
        t.keep();
        t.back();
        t.sheet();
        t.lay();
        t.read();
        t.torn();
        t.count();
        t.due.finish("PromisesTest");
    }

    private void is(String call, long got, long want) {
        due.is(call, got, want);
    }

    /** 1 */
    private void newObject() {
        BoardPress x = new BoardPress();
        for (int what = 0; what <= 5; what++) is("1 rule " + what, x.rule(what), 0);
        for (int what : new int[] {0, 1, 2, 4, 5}) is("1 count " + what, x.count(what), 0);
        is("1 count 3", x.count(3), NONE);
        is("1 man", x.man(0, 0), BAD);
        is("1 street", x.street(0, 0), BAD);
        is("1 reader", x.reader(0, 0), BAD);
        is("1 fault", x.fault(), 0);
        is("1 torn", x.torn(), 0);
        is("1 image", x.back(0), STATE);
        for (int k = 0; k < 4; k++) is("1 sheet " + k, x.lay(k, 0, 0), -11);
    }

    /** 2 */
    private void feed() {
        BoardPress x = new BoardPress();
        is("2 least", x.feed(0), 1);
        is("2 most", x.feed(127), 2);
        is("2 below", x.feed(-1), BAD);
        is("2 above", x.feed(128), BAD);
        is("2 refused", x.count(2), 2);
        for (int n = 3; n <= 160; n++) is("2 byte", x.feed(' '), n);
        is("2 full", x.feed(' '), FULL);
        is("2 bad ahead of full", x.feed(128), BAD);
        is("2 still", x.count(2), 160);
    }

    /** 3 */
    private void end() {
        BoardPress x = new BoardPress();
        Due.feed(x, "rain 7 8;boy");
        is("3 below", x.end(-1), BAD);
        is("3 above", x.end(13), BAD);
        is("3 all", x.end(12), 12);
        is("3 nine", x.end(9), 12);
        is("3 length", x.count(2), 9);
        is("3 text", x.text(), 1);
        is("3 rain", x.rule(4), 8);
        is("3 none", x.end(0), 0);
        is("3 one of none", x.end(1), BAD);
    }

    private void told(String text, int want, int fault) {
        BoardPress x = new BoardPress();
        is("4 text " + text, Due.tell(x, text), want);
        is("5 fault " + text, x.fault(), fault);
        is("4 tape " + text, x.count(2), 0);
    }

    /** 4, 5: the grammar, each fault, its place, which is met first. */
    private void text() {
        told("", 0, 0);
        told("   ", 0, 0);
        told(" ".repeat(160), 0, 0);
        told("rain 1 2;", 1, 0);
        told("rain1 2;", 1, 0);
        told("  rain  01  02  ;  ", 1, 0);
        told("rain 001 2;", -15, 1);
        told("rain 1 1234567890123456789012;", -17, 1);
        told("Rain 1 2;", -10, 1);
        told("rain 1 2;\n", -19, 1);
        told("rain 1,2;", -16, 1);
        told("rAin 1 2;", -10, 2);
        told("rain 1 2", -18, 2);
        told("rain 1 2  ", -20, 2);
        told("rain 1;", -16, 2);
        told("rain 1 2 3;", -19, 2);
        told("rain 1 2 x;", -19, 2);
        told("rain 60 1;", -15, 3);
        told("rain 59 60;", -18, 3);
        told("rain 59 59;", 1, 0);
        told("rain 0 0;rain 0 0;", -19, 4);
        told("rain 1 2;rain", -19, 4);
        told(";", -10, 2);
        told("5", -10, 2);
        told("raining 1 2;", -10, 2);
        told("rai 1 2;", -10, 2);
        told("zoo 1;", -10, 2);
        told("rainz 1 2;", -10, 2);
        told("`rain 1 2;", -10, 1);
        told("{rain 1 2;", -10, 1);
        told("rain 1 2:", -18, 1);
        told("rain / 2;", -15, 1);
        told("plain", -15, 2);
        told("plain 60 &", -16, 3);
        told("plain 6 &", -18, 1);
        told("plain 10 1;", -16, 3);
        told("plain 9 7;thin 0 0;stout 1 1;old 1 1;", 4, 0);
        told("plain 9 8;", -18, 3);
        told("plain 1 1 x", -20, 2);
        told("street 1 2;plain 1 1 2 1 2;", 2, 0);
        told("plain 1 1 2 1 9;", -24, 3);
        told("plain 1 1 2 1 2 9;", -26, 5);
        told("plain 1 1 2 1 2 123;", -26, 1);
        told("plain 1 1 2 1 2 x;", -26, 2);
        told("plain 1 1 2 1 2", -25, 2);
        told("old 1 1;".repeat(4), 4, 0);
        told("old 1 1;".repeat(4) + "thin", -42, 5);
        told("reader 1 1 1;".repeat(4), 4, 0);
        told("reader 1 1 1;".repeat(5), -62, 5);
        told("street 0 1;".repeat(9), 9, 0);
        told("street 0 1;".repeat(10), -109, 5);
        told("street 8 0;", -17, 3);
        told("street 0 8;", -19, 3);
        told("street 7 7;", -19, 3);
        told("street 0 7 ", -21, 2);
        told("reader 8 0 0;", -17, 3);
        told("reader 7 60 59;", -19, 3);
        told("reader 7 59 60;", -22, 3);
        told("reader 7 59 58;", -22, 3);
        told("reader 7 59 59;", 1, 0);
        told("thin 1 0 1;", -21, 6);
        told("thin 1 0 1;boy", -21, 2);
        told("thin 1 0 1;street 1 0;", 2, 0);
        told("thin 1 0 0;street 1 0;", -32, 6);
        told("street 0 1;street 1 2;thin 1 0 1 2;", -45, 6);
        told("street 0 1;street 1 2;street 2 0;thin 1 0 1 2;", 4, 0);
        told("thin 1 6;", 1, 0);
        told("thin 1 0 1; ", -22, 6);
    }

    /** 4: what is taken is in place of all, what is refused changes nothing. */
    private void textTellsAll() {
        BoardPress x = Due.told(TWO);
        x.rain(7, 3);
        x.keep(0);
        x.see(0, 4, 5, true);
        x.sheet(0, 1, 5);
        is("4 refused", Due.tell(x, "old 1 1;reader 1 1 1;rain 9 9;old 1"), -45);
        is("4 men stay", x.rule(0), 2);
        is("4 readers stay", x.rule(2), 2);
        is("4 kind stays", x.man(0, 0), 1);
        is("4 corner stays", x.walk(0, 0), 0);
        is("4 rain stays", x.rule(3), 7);
        is("4 SEEN stay", x.count(0), 1);
        is("4 images stay", x.count(1), 1);
        is("4 taken", Due.tell(x, "old 8 6;"), 1);
        is("4 men", x.rule(0), 1);
        is("4 streets", x.rule(1), 0);
        is("4 readers", x.rule(2), 0);
        is("4 rain", x.rule(3), 0);
        is("4 rain for", x.rule(4), 0);
        is("4 SEEN", x.count(0), 0);
        is("4 images", x.count(1), 0);
        is("4 no image", x.back(0), STATE);
        is("4 sheets stay", x.count(3), 5);
        is("4 nothing", x.text(), 0);
        is("4 none", x.rule(0), 0);
        is("4 rain once", Due.tell(x, "rain 1 2;"), 1);
        is("4 rain once in the next text, too", Due.tell(x, "rain 1 2;"), 1);
    }

    /** 5 */
    private void fault() {
        BoardPress x = new BoardPress();
        Due.tell(x, "boy");
        is("5 fault", x.fault(), 2);
        is("5 again", x.fault(), 2);
        x.feed('%');
        is("5 till text", x.fault(), 2);
        x.text();
        is("5 latest", x.fault(), 1);
        x.text();
        is("5 taken", x.fault(), 0);
    }

    /** 6 */
    private void rule() {
        BoardPress x = Due.told(TWO + "rain 21 9;");
        int[] want = {2, 2, 2, 21, 9, 2};
        for (int what = 0; what < 6; what++) is("6 rule " + what, x.rule(what), want[what]);
        is("6 below", x.rule(-1), BAD);
        is("6 above", x.rule(6), BAD);
        x.rain(4, 5);
        is("6 back of 5 in 9 still", x.rule(5), 2);
        x.rain(4, 6);
        is("6 back of 5 in 15 still", x.rule(5), 2);
        x.rain(4, 12);
        is("6 back of 5 spoilt", x.rule(5), 1);
    }

    /** 7 */
    private void man() {
        BoardPress x = Due.told("street 0 1;street 1 2;plain 9 0;thin 0 0 1;stout 1 1 0 1 2;old 2 7;");
        int[][] want = {{0, 9, 2, 1, 30}, {1, 0, 1, 2, 60}, {2, 1, 3, 4, 20}, {3, 2, 6, 1, 10}};
        for (int m = 0; m < 4; m++) {
            for (int what = 0; what < 5; what++) is("7 man " + m + " " + what, x.man(m, what), want[m][what]);
        }
        is("7 man below", x.man(-1, 0), BAD);
        is("7 man above", x.man(4, 0), BAD);
        is("7 what below", x.man(0, -1), BAD);
        is("7 what above", x.man(0, 5), BAD);
        is("7 no such", Due.told(OLD).man(1, 0), BAD);
    }

    /** 8 */
    private void walk() {
        BoardPress x = Due.told("street 0 1;street 1 2;stout 1 1 0 1 2;old 2 7;");
        int[] want = {1, 0, 1, 2, BAD};
        for (int i = 0; i < 5; i++) is("8 walk " + i, x.walk(0, i), want[i]);
        is("8 one", x.walk(1, 0), 7);
        is("8 behind one", x.walk(1, 1), BAD);
        is("8 below", x.walk(0, -1), BAD);
        is("8 no man", x.walk(2, 0), BAD);
        is("8 low", x.walk(LOW, 0), BAD);
    }

    /** 9 */
    private void street() {
        BoardPress x = Due.told("street 7 0;street 1 2;");
        is("9 first", x.street(0, 0), 7);
        is("9 second", x.street(0, 1), 0);
        is("9 other", x.street(1, 1), 2);
        is("9 none", x.street(2, 0), BAD);
        is("9 below", x.street(-1, 0), BAD);
        is("9 what", x.street(0, 2), BAD);
        is("9 what below", x.street(0, -1), BAD);
    }

    /** 10 */
    private void reader() {
        BoardPress x = Due.told(TWO);
        is("10 corner", x.reader(0, 0), 1);
        is("10 from", x.reader(0, 1), 4);
        is("10 until", x.reader(0, 2), 20);
        is("10 other", x.reader(1, 2), 59);
        is("10 none", x.reader(2, 0), BAD);
        is("10 below", x.reader(-1, 0), BAD);
        is("10 what", x.reader(0, 3), BAD);
        is("10 what below", x.reader(0, -1), BAD);
    }

    /** 11 */
    private void alter() {
        BoardPress x = Due.told(TWO);
        is("11 kind", x.alter(0, 0, 3), 1);
        is("11 pace", x.man(0, 2), 6);
        is("11 news", x.alter(0, 1, 9), 4);
        is("11 news is", x.man(0, 1), 9);
        is("11 kind again", x.alter(0, 0, 0), 3);
        is("11 other man", x.man(1, 1), 5);
        is("11 kind above", x.alter(0, 0, 4), BAD);
        is("11 kind below", x.alter(0, 0, -1), BAD);
        is("11 news above", x.alter(0, 1, 10), BAD);
        is("11 news below", x.alter(0, 1, -1), BAD);
        is("11 what", x.alter(0, 2, 0), BAD);
        is("11 what below", x.alter(0, -1, 0), BAD);
        is("11 man", x.alter(2, 0, 0), BAD);
        is("11 refused", x.man(0, 1) * 10 + x.man(0, 0), 90);
    }

    /** 12 */
    private void detour() {
        BoardPress x = Due.told("street 0 1;street 1 2;street 2 0;street 3 0;thin 4 0 1 2;old 1 5;");
        is("12 no street", x.detour(0, 1, 3), STATE);
        is("12 beside itself", x.detour(0, 1, 0), STATE);
        is("12 as it was", x.walk(0, 1), 1);
        is("12 street from 1", x.pave(1, 3), 5);
        is("12 still no street", x.detour(0, 2, 4), STATE);
        is("12 last, round", x.detour(0, 2, 3), 2);
        is("12 is", x.walk(0, 2), 3);
        is("12 the same", x.detour(0, 0, 0), 0);
        is("12 one corner", x.detour(1, 0, 7), 5);
        is("12 one corner is", x.at(1, 6), 7);
        is("12 corner above", x.detour(0, 0, 8), BAD);
        is("12 corner below", x.detour(0, 0, -1), BAD);
        is("12 place above", x.detour(0, 3, 0), BAD);
        is("12 place below", x.detour(0, -1, 0), BAD);
        is("12 man", x.detour(2, 0, 0), BAD);
    }

    /** 13 */
    private void shift() {
        BoardPress x = Due.told("street 0 1;street 1 2;street 2 3;street 3 0;thin 4 0 1 2 3;old 1 5;");
        is("13 shift", x.shift(0, 3), 0);
        int[] want = {3, 0, 1, 2};
        for (int i = 0; i < 4; i++) is("13 walk " + i, x.walk(0, i), want[i]);
        is("13 begins", x.at(0, 0), 3);
        is("13 by none", x.shift(0, 0), 3);
        is("13 on", x.shift(0, 2), 3);
        is("13 from there", x.walk(0, 0), 1);
        is("13 one", x.shift(1, 0), 5);
        is("13 behind one", x.shift(1, 1), BAD);
        is("13 behind", x.shift(0, 4), BAD);
        is("13 below", x.shift(0, -1), BAD);
        is("13 man", x.shift(2, 0), BAD);
        is("13 high", x.shift(0, HIGH), BAD);
        is("13 refused", x.walk(0, 0), 1);
    }

    /** 14 */
    private void stand() {
        BoardPress x = Due.told(TWO);
        is("14 corner", x.stand(0, 0, 7), 1);
        is("14 from", x.stand(0, 1, 20), 4);
        is("14 from above until", x.stand(0, 1, 21), BAD);
        is("14 until below from", x.stand(0, 2, 19), BAD);
        is("14 until", x.stand(0, 2, 59), 20);
        is("14 least", x.stand(0, 1, 0), 20);
        is("14 is", x.reader(0, 0) * 10000 + x.reader(0, 1) * 100 + x.reader(0, 2), 70059);
        is("14 corner above", x.stand(0, 0, 8), BAD);
        is("14 corner below", x.stand(0, 0, -1), BAD);
        is("14 from below", x.stand(0, 1, -1), BAD);
        is("14 until above", x.stand(0, 2, 60), BAD);
        is("14 what", x.stand(0, 3, 0), BAD);
        is("14 what below", x.stand(0, -1, 0), BAD);
        is("14 reader", x.stand(2, 0, 0), BAD);
    }

    /** 15 */
    private void rain() {
        BoardPress x = Due.told("street 0 1;thin 4 0 1;reader 0 58 59;");
        is("15 dry", x.rule(5), 1);
        is("15 first", x.rain(59, 59), 0);
        is("15 the last minute is wet", x.rule(5), 0);
        is("15 no next day", x.reads(0, 58, 0), 1);
        is("15 second", x.rain(0, 59), 59);
        is("15 58 is wet", x.knows(0, 59, 0), 0);
        is("15 59 is dry", x.knows(0, 59, 1), 16);
        is("15 third", x.rain(58, 0), 0);
        is("15 for none", x.rule(5), 1);
        is("15 minute below", x.rain(-1, 0), BAD);
        is("15 minute above", x.rain(60, 0), BAD);
        is("15 for below", x.rain(0, -1), BAD);
        is("15 for above", x.rain(0, 60), BAD);
        is("15 refused", x.rule(3), 58);
    }

    /** 16 */
    private void pave() {
        BoardPress x = new BoardPress();
        is("16 first", x.pave(7, 0), 1);
        is("16 is", x.street(0, 0), 7);
        is("16 alike", x.pave(3, 3), BAD);
        is("16 below", x.pave(-1, 3), BAD);
        is("16 above", x.pave(3, 8), BAD);
        is("16 first above", x.pave(8, 3), BAD);
        is("16 second below", x.pave(3, -1), BAD);
        for (int n = 2; n <= 9; n++) is("16 the same again", x.pave(0, 7), n);
        is("16 full", x.pave(0, 1), FULL);
        is("16 bad ahead of full", x.pave(1, 1), BAD);
        is("16 nine", x.rule(1), 9);
    }

    /** 17 */
    private void at() {
        BoardPress x = Due.told("street 0 1;street 1 2;street 2 0;plain 9 0 1 2;thin 0 0 1;stout 1 1 2;old 2 7;");
        int[][] want = {{0, NONE, 1, NONE, 2, NONE, 0}, {0, 1, 0, 1, 0, 1, 0},
            {1, NONE, NONE, 2, NONE, NONE, 1}, {7, NONE, NONE, NONE, NONE, NONE, 7}};
        for (int m = 0; m < 4; m++) {
            for (int t = 0; t < 7; t++) is("17 at " + m + " " + t, x.at(m, t), want[m][t]);
        }
        is("17 last", x.at(1, 59), 1);
        is("17 late", x.at(0, 58), 2);
        BoardPress y = Due.told("street 0 1;street 1 2;street 2 3;street 3 0;plain 1 0 1 2 3;");
        for (int i = 0; i < 30; i++) is("17 round " + i, y.at(0, 2 * i), i % 4);
        is("17 minute above", x.at(0, 60), BAD);
        is("17 minute below", x.at(0, -1), BAD);
        is("17 man", x.at(4, 0), BAD);
        is("17 man below", x.at(-1, 0), BAD);
    }

    /** 18 */
    private void reads() {
        BoardPress x = Due.told(TWO);
        int[] minutes = {3, 4, 5, 6, 9, 20, 21};
        int[] fronts = {0, 0, 1, 2, 1, 0, 0};
        int[] backs = {0, 1, 0, 1, 2, 1, 0};
        for (int i = 0; i < minutes.length; i++) {
            is("18 front " + minutes[i], x.reads(0, minutes[i], 0), fronts[i]);
            is("18 back " + minutes[i], x.reads(0, minutes[i], 1), backs[i]);
        }
        x.rain(5, 1);
        is("18 wet", x.reads(0, 5, 0), 0);
        is("18 dry again", x.reads(0, 6, 0), 2);
        is("18 elsewhere", x.reads(1, 6, 0), 0);
        is("18 what", x.reads(0, 5, 2), BAD);
        is("18 what below", x.reads(0, 5, -1), BAD);
        is("18 minute", x.reads(0, 60, 0), BAD);
        is("18 minute below", x.reads(0, -1, 0), BAD);
        is("18 reader", x.reads(2, 5, 0), BAD);
        BoardPress y = Due.told("street 0 1;thin 1 0 1;thin 2 1 0;thin 3 0;reader 0 0 59;reader 1 0 0;");
        is("18 both at one", y.reads(0, 0, 0), 5);
        is("18 no back in minute 0", y.reads(1, 0, 1), 0);
        is("18 no back in minute 0, either", y.reads(0, 0, 1), 0);
        is("18 no back of one corner", y.reads(0, 1, 1), 1);
        is("18 front of one corner", y.reads(0, 1, 0), 6);
        BoardPress z = Due.told("street 0 1;street 1 2;plain 1 0 1 2 1;reader 1 0 59;");
        for (int i = 0; i < 30; i++) {
            is("18 front, twice a round " + i, z.reads(0, 2 * i, 0), i % 2);
            is("18 back, twice a round " + i, z.reads(0, 2 * i, 1), i == 0 ? 0 : 1 - i % 2);
        }
    }

    /** 19 */
    private void knows() {
        BoardPress x = Due.told(TWO);
        is("19 front by 4", x.knows(0, 4, 0), 0);
        is("19 back by 4", x.knows(0, 4, 1), 16);
        is("19 front by 5", x.knows(0, 5, 0), 16);
        is("19 whole by 4", x.knows(0, 4, 2), 0);
        is("19 whole by 5", x.knows(0, 5, 2), 16);
        is("19 front by 6", x.knows(0, 6, 0), 48);
        is("19 whole by 8", x.knows(0, 8, 2), 16);
        is("19 whole by 9", x.knows(0, 9, 2), 48);
        is("19 whole by 59", x.knows(0, 59, 2), 48);
        is("19 elsewhere", x.knows(1, 59, 0), 0);
        is("19 what", x.knows(0, 0, 3), BAD);
        is("19 what below", x.knows(0, 0, -1), BAD);
        is("19 minute", x.knows(0, 60, 0), BAD);
        is("19 minute below", x.knows(0, -1, 0), BAD);
        is("19 reader", x.knows(-1, 0, 0), BAD);
        BoardPress y = Due.told(HALVES);
        is("19 halves", y.knows(0, 59, 0) * 1000 + y.knows(0, 59, 1), 2004);
        y.alter(1, 1, 2);
        is("19 whole of two men's halves", y.knows(0, 59, 2), 4);
        is("19 in minute 0", Due.told("plain 3 6;reader 6 0 0;").knows(0, 0, 0), 8);
    }

    /** 20 */
    private void first() {
        BoardPress x = Due.told(TWO);
        is("20 first 4", x.first(0, 4), 5);
        is("20 first 5", x.first(0, 5), 9);
        is("20 no such news", x.first(0, 0), NONE);
        is("20 elsewhere", x.first(1, 4), NONE);
        is("20 news", x.first(0, 10), BAD);
        is("20 news below", x.first(0, -1), BAD);
        is("20 reader", x.first(2, 0), BAD);
        x.rain(0, 59);
        is("20 wet", x.first(0, 4), NONE);
        is("20 front in minute 0", Due.told("street 0 1;thin 4 0 1;reader 0 0 1;").first(0, 4), 1);
        is("20 the sooner man", Due.told("street 0 1;thin 4 0 1;old 4 0 1;reader 0 0 59;").first(0, 4), 1);
        is("20 the sooner man behind", Due.told("street 0 1;old 4 0 1;thin 4 0 1;reader 0 0 59;").first(0, 4), 1);
    }

    /** 21 */
    private void all() {
        BoardPress x = Due.told("street 0 1;thin 4 0 1;reader 0 0 0;reader 1 2 3;reader 2 0 59;reader 0 0 59;");
        is("21 all", x.all(4), 10);
        x.stand(0, 2, 1);
        is("21 reader 0, too", x.all(4), 11);
        is("21 none", x.all(5), 0);
        is("21 above", x.all(10), BAD);
        is("21 below", x.all(-1), BAD);
    }

    /** 22 */
    private void meet() {
        BoardPress x = Due.told(TWO);
        is("22 never", x.meet(0, 1), NONE);
        x.alter(1, 0, 1);
        is("22 never at one time", x.meet(1, 0), NONE);
        x.shift(1, 1);
        is("22 in minute 1", x.meet(0, 1), 1);
        x.rain(0, 59);
        is("22 in rain", x.meet(1, 0), 1);
        is("22 alike", x.meet(0, 0), BAD);
        is("22 none", x.meet(0, 2), BAD);
        is("22 none either", x.meet(-1, 0), BAD);
        is("22 on the way is no corner", Due.told("plain 1 0;old 1 1;").meet(0, 1), NONE);
        is("22 at once", Due.told("plain 1 3;old 1 3;").meet(0, 1), 0);
    }

    /** 23 */
    private void best() {
        BoardPress x = Due.told(TWO);
        is("23 corner", x.best(1, 0), 1);
        is("23 how many", x.best(1, 1), 2);
        is("23 stays", x.reader(1, 0), 3);
        x.stand(0, 2, 5);
        is("23 the first of several", x.best(0, 0), 0);
        is("23 one", x.best(0, 1), 1);
        x.rain(0, 59);
        is("23 none: the first", x.best(1, 0), 0);
        is("23 none", x.best(1, 1), 0);
        is("23 what", x.best(0, 2), BAD);
        is("23 what below", x.best(0, -1), BAD);
        is("23 reader", x.best(2, 0), BAD);
        is("23 the first of far ones", Due.told("street 6 7;stout 1 7 6;reader 0 0 5;reader 0 3 6;").best(1, 0), 6);
    }

    /** 24 */
    private void late() {
        BoardPress x = Due.told(TWO);
        is("24 late 4", x.late(0, 4), 19);
        is("24 late 5", x.late(0, 5), 15);
        x.stand(0, 1, 20);
        is("24 earlier than he comes", x.late(0, 5), 15);
        is("24 stays", x.reader(0, 1), 20);
        is("24 elsewhere", x.late(1, 4), NONE);
        is("24 no such news", x.late(0, 3), NONE);
        is("24 news", x.late(0, 10), BAD);
        is("24 news below", x.late(0, -1), BAD);
        is("24 reader", x.late(2, 4), BAD);
        x.rain(14, 5);
        is("24 in rain", x.late(0, 5), 9);
        is("24 minute 0", Due.told("street 0 1;thin 4 0 1;reader 0 1 1;").late(0, 4), 0);
    }

    /** 25 */
    private void soon() {
        BoardPress x = Due.told(TWO);
        is("25 soon 4", x.soon(0, 4), 5);
        is("25 soon 5", x.soon(0, 5), 9);
        x.stand(0, 2, 4);
        is("25 later than he goes", x.soon(0, 5), 9);
        is("25 stays", x.reader(0, 2), 4);
        is("25 elsewhere", x.soon(1, 4), NONE);
        is("25 no such news", x.soon(0, 3), NONE);
        is("25 news", x.soon(0, 10), BAD);
        is("25 news below", x.soon(0, -1), BAD);
        is("25 reader", x.soon(-1, 4), BAD);
        x.rain(5, 8);
        is("25 in rain", x.soon(0, 5), 18);
    }

    /** 26 */
    private void begin() {
        BoardPress x = Due.told("street 0 1;old 3 1 0;old 2 7;reader 0 0 6;");
        is("26 as it is", x.rule(5), 0);
        is("26 place", x.begin(0, 0), 1);
        is("26 how many", x.begin(0, 1), 1);
        is("26 stays", x.walk(0, 0), 1);
        is("26 one corner", x.begin(1, 0), 0);
        is("26 one corner's", x.begin(1, 1), 0);
        x.stand(0, 2, 59);
        is("26 the first of several", x.begin(0, 0), 0);
        is("26 what", x.begin(0, 2), BAD);
        is("26 what below", x.begin(0, -1), BAD);
        is("26 man", x.begin(2, 0), BAD);
        is("26 of three", Due.told("street 0 1;street 1 2;street 0 2;old 3 0 1 2;reader 2 0 6;").begin(0, 0), 2);
    }

    /** 27 */
    private void kind() {
        BoardPress x = Due.told(OLD);
        x.stand(0, 2, 3);
        is("27 thin", x.kind(0, 0), 1);
        is("27 how many", x.kind(0, 1), 1);
        is("27 stays", x.man(0, 0), 3);
        x.stand(0, 2, 59);
        is("27 the first of several", x.kind(0, 0), 0);
        x.stand(0, 0, 5);
        is("27 none", x.kind(0, 1), 0);
        is("27 what", x.kind(0, 2), BAD);
        is("27 what below", x.kind(0, -1), BAD);
        is("27 man", x.kind(1, 0), BAD);
        BoardPress y = Due.told("street 0 1;plain 3 0 1;reader 0 3 3;reader 0 0 0;reader 0 6 6;");
        is("27 none of one minute", y.kind(0, 1), 0);
    }

    /** 28 */
    private void swap() {
        BoardPress x = Due.told(HALVES);
        is("28 who", x.swap(0), 12);
        is("28 how many", x.swap(1), 1);
        is("28 stays", x.man(1, 1), 1);
        x.alter(1, 1, 2);
        is("28 none is better", x.swap(0), NONE);
        is("28 none", x.swap(1), NONE);
        is("28 what", x.swap(2), BAD);
        is("28 what below", x.swap(-1), BAD);
        BoardPress y = Due.told("street 0 1;thin 1 0 1;thin 1 1 0;plain 2 3;reader 0 0 59;reader 1 0 59;");
        is("28 the least of several", y.swap(0), 2);
        is("28 most", y.swap(1), 4);
        y = Due.told("street 0 1;plain 2 3;thin 1 0 1;thin 1 1 0;reader 0 0 59;reader 1 0 59;");
        is("28 the greater one gets the news of the lesser", y.swap(0), 1);
        y.alter(0, 1, 1);
        is("28 all alike", y.swap(0), NONE);
        y.alter(1, 1, 2);
        y.alter(2, 1, 2);
        is("28 as it is now", y.swap(1), 4);
    }

    /** 29 */
    private void spoil() {
        BoardPress x = Due.told("street 0 1;thin 4 0 1;reader 0 3 6;rain 3 3;");
        is("29 as it is", x.rule(5), 0);
        is("29 one minute spoils none", x.spoil(1, 0), 0);
        is("29 left", x.spoil(1, 1), 1);
        is("29 three minutes", x.spoil(3, 0), 3);
        is("29 none left", x.spoil(3, 1), 0);
        is("29 most", x.spoil(59, 0), 0);
        is("29 stays", x.rule(3) * 100 + x.rule(4), 303);
        x.stand(0, 2, 4);
        is("29 as it is now", x.spoil(1, 0), 3);
        is("29 none", x.spoil(0, 0), BAD);
        is("29 above", x.spoil(60, 0), BAD);
        is("29 what", x.spoil(1, 2), BAD);
        is("29 what below", x.spoil(1, -1), BAD);
        is("29 the last minute", Due.told("street 0 1;thin 4 0 1;reader 0 58 59;").spoil(1, 0), 58);
        is("29 in 59", Due.told("street 0 1;thin 4 0 1;reader 1 57 59;rain 58 1;").spoil(2, 0), 57);
    }

    private void fraction(String what, long over, long under, long wantOver, long wantUnder) {
        is(what + " over", over, wantOver);
        is(what + " under", under, wantUnder);
    }

    /** 30 */
    private void luck() {
        BoardPress x = Due.told("street 0 1;thin 4 0 1;thin 4 1 0;reader 0 0 59;");
        fraction("30 either", x.luck(3, 0, 4, 0), x.luck(3, 0, 4, 1), 91, 100);
        fraction("30 lowest terms", x.luck(5, 0, 4, 0), x.luck(5, 0, 4, 1), 3, 4);
        fraction("30 all go", x.luck(0, 0, 4, 0), x.luck(0, 0, 4, 1), 1, 1);
        fraction("30 none go", x.luck(10, 0, 4, 0), x.luck(10, 0, 4, 1), 0, 1);
        fraction("30 no such news", x.luck(3, 0, 5, 0), x.luck(3, 0, 5, 1), 0, 1);
        BoardPress y = Due.told(HALVES);
        y.alter(1, 1, 2);
        fraction("30 both are wanted", y.luck(4, 0, 2, 0), y.luck(4, 0, 2, 1), 9, 25);
        is("30 odds below", x.luck(-1, 0, 4, 0), BAD);
        is("30 odds above", x.luck(11, 0, 4, 0), BAD);
        is("30 reader", x.luck(3, 1, 4, 0), BAD);
        is("30 news", x.luck(3, 0, 10, 0), BAD);
        is("30 news below", x.luck(3, 0, -1, 0), BAD);
        is("30 what", x.luck(3, 0, 4, 2), BAD);
        is("30 what below", x.luck(3, 0, 4, -1), BAD);
    }

    /** 31 */
    private void mean() {
        BoardPress x = Due.told("street 0 1;thin 4 0 1;thin 4 1 0;thin 5 0 1;reader 0 0 59;");
        fraction("31 mean", x.mean(3, 0), x.mean(3, 1), 161, 100);
        fraction("31 all go", x.mean(0, 0), x.mean(0, 1), 2, 1);
        fraction("31 none go", x.mean(10, 0), x.mean(10, 1), 0, 1);
        fraction("31 no men", new BoardPress().mean(5, 0), new BoardPress().mean(5, 1), 0, 1);
        BoardPress y = Due.told("street 0 1;thin 4 0 1;thin 5 1 0;thin 6 0 1;thin 7 1 0;reader 0 0 59;reader 1 0 59;");
        fraction("31 four", y.mean(1, 0), y.mean(1, 1), 36, 5);
        is("31 odds below", x.mean(-1, 0), BAD);
        is("31 odds above", x.mean(11, 0), BAD);
        is("31 what", x.mean(3, 2), BAD);
        is("31 what below", x.mean(3, -1), BAD);
    }

    /** 32 */
    private void see() {
        BoardPress x = Due.told(OLD);
        is("32 reader", x.see(1, 3, 4, true), BAD);
        is("32 reader below", x.see(-1, 3, 4, true), BAD);
        is("32 news", x.see(0, 10, 4, true), BAD);
        is("32 news below", x.see(0, -1, 4, true), BAD);
        is("32 minute", x.see(0, 3, 60, true), BAD);
        is("32 minute below", x.see(0, 3, -1, true), BAD);
        is("32 refused", x.count(0), 0);
        for (int n = 1; n <= 6; n++) is("32 see", x.see(0, 3, 4, n % 2 == 0), n);
        is("32 full", x.see(0, 3, 4, true), FULL);
        is("32 bad ahead of full", x.see(0, 3, 60, true), BAD);
        is("32 six", x.count(0), 6);
    }

    /** 33 */
    private void forget() {
        BoardPress x = Due.told(OLD);
        x.see(0, 3, 4, true);
        x.see(0, 3, 3, false);
        x.see(0, 3, 0, true);
        is("33 not so", x.kinds(0), 0);
        is("33 above", x.forget(4), BAD);
        is("33 below", x.forget(-1), BAD);
        is("33 all stay", x.forget(3), 3);
        is("33 two", x.forget(2), 3);
        is("33 plain", x.kinds(0), 1);
        is("33 the first", x.forget(1), 2);
        is("33 plain, thin", x.kinds(0), 3);
        is("33 none", x.forget(0), 1);
        is("33 all", x.kinds(0), 15);
        is("33 of none", x.forget(0), 0);
    }

    /** 34 */
    private void kinds() {
        BoardPress x = Due.told(OLD);
        is("34 nothing SEEN", x.kinds(0), 15);
        x.see(0, 3, 6, true);
        is("34 not old", x.kinds(0), 7);
        x.see(0, 3, 5, false);
        is("34 stout", x.kinds(0), 4);
        is("34 stays", x.man(0, 0), 3);
        x.see(0, 9, 59, true);
        is("34 none", x.kinds(0), 0);
        is("34 man", x.kinds(1), BAD);
        is("34 man below", x.kinds(-1), BAD);
        x.forget(0);
        x.see(0, 3, 12, false);
        is("34 none that late", x.kinds(0), 0);
        x.forget(0);
        x.see(0, 3, 2, true);
        x.shift(0, 1);
        is("34 as it is now", x.kinds(0), 3);
        BoardPress y = Due.told("street 0 1;thin 4 0 1;reader 0 0 1;");
        y.see(0, 4, 1, true);
        is("34 front in minute 0", y.kinds(0), 2);
    }

    /** 35 */
    private void news() {
        BoardPress x = Due.told(OLD);
        is("35 nothing SEEN", x.news(0), 1023);
        x.see(0, 7, 59, false);
        is("35 all but one", x.news(0), 895);
        x.see(0, 9, 12, true);
        is("35 one", x.news(0), 512);
        is("35 stays", x.man(0, 1), 3);
        x.see(0, 9, 11, true);
        is("35 none", x.news(0), 0);
        x.alter(0, 0, 0);
        is("35 as it is now", x.news(0), 512);
        is("35 man", x.news(1), BAD);
        is("35 man below", x.news(-1), BAD);
    }

    /** 36 */
    private void ask() {
        BoardPress x = Due.told("street 0 1;old 3 1 0;old 9 5;reader 5 0 59;reader 0 0 59;reader 0 0 59;");
        is("36 who, when", x.ask(0, 0), 104);
        is("36 left", x.ask(0, 1), 2);
        is("36 stays", x.man(0, 0), 3);
        is("36 nothing SEEN", x.count(0), 0);
        is("36 who is known by none", x.ask(1, 0), NONE);
        is("36 none is left", x.ask(1, 1), NONE);
        x.see(1, 3, 4, true);
        is("36 of plain, thin", x.ask(0, 0), 102);
        is("36 one left", x.ask(0, 1), 1);
        x.see(1, 3, 2, true);
        is("36 it is thin", x.ask(0, 0), NONE);
        x.see(1, 3, 2, false);
        is("36 it can not be", x.ask(0, 1), NONE);
        is("36 man", x.ask(2, 0), BAD);
        is("36 man below", x.ask(-1, 0), BAD);
        is("36 what", x.ask(0, 2), BAD);
        is("36 what below", x.ask(0, -1), BAD);
        x.forget(0);
        x.see(1, 3, 5, false);
        is("36 of stout, old", x.ask(0, 0), 106);
        BoardPress y = Due.told(OLD);
        is("36 reader 0", y.ask(0, 0), 4);
        y.stand(0, 1, 6);
        is("36 as it is now: 7, 8, 9, 12", y.ask(0, 0), 8);
        y.shift(0, 1);
        is("36 and now: 7, 8, 12, 12", y.ask(0, 0), 8);
    }

    /** He who passes 0 each other minute is known whole in two minutes, unless one is wet. */
    private void driftWindow(int seed, int days, int from, int until, int want) {
        BoardPress x = Due.told("street 0 1;thin 3 0 1;reader 0 " + from + " " + until + ";");
        is("37 seed " + seed + " from " + from, x.drift(seed, days, 1), want);
    }

    /** 37: by seed 1 are got 16838, 5758; by seed 0 0, 21468: wet from 32, 59; 0, 21. */
    private void drift() {
        BoardPress x = Due.told("street 0 1;old 3 1 0;reader 0 0 6;rain 0 1;");
        is("37 day 1", x.drift(1, 1, 0), 1);
        is("37 day 1 is the last", x.drift(1, 1, 1), 1);
        is("37 two days", x.drift(1, 2, 0), 1);
        is("37 day 2, on from day 1", x.drift(1, 2, 1), 0);
        is("37 walk stays", x.walk(0, 0), 1);
        is("37 rain stays", x.rule(3) * 100 + x.rule(4), 1);
        x.shift(0, 1);
        is("37 day 2 from there", x.drift(1, 2, 1), 1);
        BoardPress y = Due.told("street 0 1;old 3 1 0;reader 0 30 36;reader 1 36 42;");
        is("37 wet from 32 to 41", y.drift(1, 1, 0), 0);
        y.stand(1, 2, 48);
        is("37 dry in 42", y.drift(1, 1, 0), 1);
        BoardPress z = Due.told("street 0 1;old 3 1 0;old 3 6;old 3 1 0;reader 0 0 6;");
        is("37 man 2 of 3", z.drift(1, 1, 0), 1);
        driftWindow(1, 1, 30, 31, 1);
        driftWindow(1, 1, 31, 32, 0);
        driftWindow(1, 1, 41, 42, 0);
        driftWindow(1, 1, 42, 43, 1);
        driftWindow(0, 2, 19, 20, 1);
        driftWindow(0, 2, 20, 21, 0);
        driftWindow(0, 2, 30, 31, 0);
        driftWindow(0, 2, 31, 32, 1);
        BoardPress ring = Due.told("street 0 1;street 1 2;street 2 3;street 3 0;old 3 0 1 2 3;reader 1 0 6;");
        is("37 to place 1 of 4", ring.drift(1, 1, 0), 1);
        ring.shift(0, 1);
        is("37 to place 1 of 4 from there", ring.drift(1, 1, 0), 0);
        is("37 any seed", z.drift(LOW, 60, 1) >= 0 ? 1 : 0, 1);
        is("37 days", x.drift(1, 0, 0), BAD);
        is("37 days above", x.drift(1, 61, 0), BAD);
        is("37 what", x.drift(1, 1, 2), BAD);
        is("37 what below", x.drift(1, 1, -1), BAD);
        is("37 no men", new BoardPress().drift(1, 1, 0), STATE);
        is("37 bad ahead of state", new BoardPress().drift(1, 0, 0), BAD);
    }

    /** 38 */
    private void keep() {
        BoardPress x = Due.told(OLD);
        is("38 first", x.keep(0), 0);
        is("38 again", x.keep(0), 1);
        is("38 other", x.keep(1), 0);
        is("38 below", x.keep(-1), BAD);
        is("38 above", x.keep(2), BAD);
        is("38 two", x.count(1), 2);
        x.alter(0, 0, 1);
        x.keep(1);
        x.alter(0, 0, 2);
        x.back(1);
        is("38 the latest", x.man(0, 0), 1);
        x.alter(0, 0, 2);
        x.back(1);
        is("38 it stays", x.man(0, 0), 1);
        x.back(0);
        is("38 the other one stays", x.man(0, 0), 3);
    }

    /** 39 */
    private void back() {
        BoardPress x = Due.told(TWO + "rain 1 1;");
        is("39 none", x.back(0), STATE);
        is("39 below", x.back(-1), BAD);
        is("39 above", x.back(2), BAD);
        x.keep(0);
        x.pave(5, 6);
        x.alter(0, 0, 0);
        x.alter(0, 1, 1);
        x.shift(1, 1);
        x.stand(0, 0, 6);
        x.stand(1, 1, 9);
        x.stand(1, 2, 9);
        x.rain(30, 30);
        x.see(0, 1, 1, true);
        is("39 pairs", x.back(0), 2);
        is("39 streets", x.rule(1), 2);
        is("39 kind, news", x.man(0, 0) * 10 + x.man(0, 1), 14);
        is("39 walk", x.walk(1, 0), 1);
        is("39 corner", x.reader(0, 0), 1);
        is("39 from, until", x.reader(1, 1) * 100 + x.reader(1, 2), 59);
        is("39 rain", x.rule(3) * 100 + x.rule(4), 101);
        is("39 SEEN stay", x.count(0), 1);
        is("39 no such street now", x.street(2, 0), BAD);
        is("39 it is there still", x.back(0), 2);
    }

    /** 40 */
    private void sheet() {
        BoardPress x = Due.told(OLD);
        is("40 most", x.sheet(0, 0, 40), 1);
        is("40 cells", x.count(3), 40);
        is("40 the last cell", x.lay(0, 39, 5), 1);
        is("40 size", x.sheet(0, 1, -1), -14);
        is("40 low", x.sheet(0, 1, LOW), -14);
        is("40 as it was", x.count(3), 40);
        is("40 above", x.sheet(0, 1, 41), BAD);
        is("40 lane", x.sheet(0, 3, 1), BAD);
        is("40 lane below", x.sheet(0, -1, 1), BAD);
        is("40 sheet", x.sheet(4, 0, 1), BAD);
        is("40 sheet below", x.sheet(-1, 0, 1), BAD);
        is("40 bad ahead of size", x.sheet(4, 0, -1), BAD);
        is("40 none", x.sheet(0, 2, 0), 1);
        is("40 none are there", x.count(3), 0);
        x.sheet(0, 0, 2);
        x.lay(0, 1, 6);
        x.sheet(0, 0, 2);
        is("40 read", x.read(0, 0, 0, 1), 1);
        is("40 cells are 0 anew", x.reader(0, 0), 0);
        x.lay(0, 0, 1);
        x.sheet(0, 0, 2);
        is("40 the first, too", x.read(0, 0, 0, 1), 1);
    }

    private int cornerRead(int lane, int v) {
        BoardPress x = Due.told(OLD);
        x.sheet(2, lane, 2);
        x.lay(2, 1, v);
        int came = x.read(2, lane, 0, 1);
        return came == 1 ? x.reader(0, 0) : came;
    }

    /** 41 */
    private void lay() {
        BoardPress x = new BoardPress();
        is("41 nothing", x.lay(3, 0, 0), -11);
        x.sheet(3, 2, 4);
        is("41 cell", x.lay(3, 3, HIGH), 1);
        is("41 index", x.lay(3, 4, 0), -12);
        is("41 index below", x.lay(3, -1, 0), -12);
        is("41 low", x.lay(3, LOW, 0), -12);
        is("41 sheet", x.lay(4, 0, 0), BAD);
        is("41 sheet below", x.lay(-1, 0, 0), BAD);
        x.sheet(3, 0, 0);
        is("41 no cells", x.lay(3, 0, 0), -12);
        is("41 byte", cornerRead(0, 256 + 7), 7);
        is("41 byte below 0", cornerRead(0, 255), -20);
        is("41 short", cornerRead(1, 65536 + 7), 7);
        is("41 short is no byte", cornerRead(1, 256 + 7), -20);
        is("41 short below 0", cornerRead(1, -65536 + 7), 7);
        is("41 int", cornerRead(2, 7), 7);
        is("41 int is no short", cornerRead(2, 65536 + 7), -20);
    }

    private static BoardPress sheeted(int... cells) {
        BoardPress x = Due.told(TWO);
        x.sheet(1, 1, cells.length);
        for (int i = 0; i < cells.length; i++) x.lay(1, i, cells[i]);
        return x;
    }

    /** 42 */
    private void read() {
        BoardPress x = sheeted(0, 7, 1, 6, 0, 5, 2, 0, 0);
        is("42 two", x.read(1, 1, 0, 2), 2);
        is("42 they stand", x.reader(0, 0) * 10 + x.reader(1, 0), 76);
        is("42 three: the latest", x.read(1, 1, 0, 3), 3);
        is("42 it is", x.reader(0, 0), 5);
        is("42 from a cell", x.read(1, 1, 2, 1), 1);
        x.stand(0, 0, 1);
        x.stand(1, 0, 1);
        is("42 no such reader", x.read(1, 1, 0, 20), -23);
        is("42 none came", x.reader(0, 0) * 10 + x.reader(1, 0), 11);
        is("42 odd: 7 1 6 0", x.read(1, 1, 1, 2), -20);
        is("42 half a one", x.read(1, 1, 8, 1), 0);
        is("42 none", x.read(1, 1, 0, 0), 0);
        is("42 none came, either", x.reader(0, 0) * 10 + x.reader(1, 0), 11);
        is("42 high", x.read(1, 1, HIGH, 20), 0);
        is("42 low", x.read(1, 1, LOW, 20), 0);
        is("42 sheet", x.read(4, 1, 0, 1), BAD);
        is("42 sheet below", x.read(-1, 1, 0, 1), BAD);
        is("42 lane", x.read(1, 3, 0, 1), BAD);
        is("42 lane below", x.read(1, -1, 0, 1), BAD);
        is("42 many", x.read(1, 1, 0, 21), BAD);
        is("42 below", x.read(1, 1, 0, -1), BAD);
        BoardPress y = sheeted(0, 7, 1, 6, 0);
        is("42 those ahead came", y.read(1, 1, 0, 20), 2);
        is("42 they stand, too", y.reader(0, 0) * 10 + y.reader(1, 0), 76);
        is("42 corner above", sheeted(0, 8).read(1, 1, 0, 1), -20);
        is("42 corner below", sheeted(1, 1, 0, -1).read(1, 1, 0, 2), -21);
        is("42 reader below", sheeted(1, 1, -1, 0).read(1, 1, 0, 2), -21);
        BoardPress z = Due.told("reader 0 0 0;");
        z.sheet(0, 2, 40);
        is("42 most", z.read(0, 2, 0, 20), 20);
    }

    /** 43 */
    private void torn() {
        BoardPress x = sheeted(0, 7, 1, 6, 2, 0, 0, 1, 0);
        x.read(1, 1, 6, 2);
        is("43 index", x.torn(), 2);
        x.read(1, 1, 0, 3);
        is("43 a refused one came to no end", x.torn(), 2);
        x.read(1, 1, 0, 21);
        is("43 a bad one, neither", x.torn(), 2);
        x.read(1, 1, 0, 2);
        is("43 none", x.torn(), 0);
        x.read(1, 0, 0, 1);
        is("43 cast", x.torn(), 3);
        x.read(2, 0, 0, 1);
        is("43 null", x.torn(), 1);
        x.read(1, 2, -1, 1);
        is("43 cast ahead of index", x.torn(), 3);
        x.read(1, 1, -1, 1);
        is("43 index below", x.torn(), 2);
        x.sheet(3, 0, -1);
        x.lay(2, 0, 0);
        is("43 of read() alone", x.torn(), 2);
        x.read(2, 0, 0, 0);
        is("43 nothing was read", x.torn(), 0);
    }

    /** 44 */
    private void count() {
        BoardPress x = Due.told(TWO);
        x.see(0, 4, 5, true);
        x.see(0, 4, 5, true);
        x.keep(1);
        x.feed(';');
        x.feed(';');
        x.feed(';');
        is("44 nothing", x.count(3), NONE);
        x.sheet(1, 0, 9);
        is("44 of sheet 0", x.count(3), NONE);
        x.sheet(0, 1, 7);
        int[] want = {2, 1, 3, 7, 4, 77};
        for (int what = 0; what < 6; what++) is("44 count " + what, x.count(what), want[what]);
        is("44 below", x.count(-1), BAD);
        is("44 above", x.count(6), BAD);
    }
}
