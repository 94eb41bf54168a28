/** SHEETS and CELLS, the FAULTS 1 to 4 that the machine finds, what is read of them: each sentence by itself. */
public final class SheetTest {
    private static final String[] LANES = {"BYTES", "SHORTS", "INTS"};
    /** Two READERS, 0 and 1, at 1 and at 3. */
    private static final String TWO = "reader 1 4 20;reader 3 0 59;";
    private static final String FOUR = "reader 7 0 0;reader 7 0 0;reader 7 0 0;reader 7 0 0;";

    private final Due due = new Due();

    public static void main(String[] args) {
        SheetTest t = new SheetTest();
        t.sheetsAndLanes();
        t.fault4Size();
        t.newRow();
        t.layFaults();
        t.lowestBits();
        t.readNone();
        t.readAsManyAsThereMayBe();
        t.readFromACell();
        t.fault1Null();
        t.fault2Index();
        t.fault3Cast();
        t.whichFaultIsFirst();
        t.thoseAheadCame();
        t.refusedByStand();
        t.firstMet();
        t.tornOfTheLatest();
        t.counts();
        t.due.finish("SheetTest");
    }

    private Run run(String sentence, String text, String... rows) {
        return Run.of(due, sentence, text, rows);
    }

    /** A SHEET of a lane with these CELLS. */
    private Run laid(String sentence, String text, int k, int lane, int... cells) {
        Run run = run(sentence, text, "sheet " + k + " " + lane + " " + cells.length + " = 1");
        for (int i = 0; i < cells.length; i++) {
            run.is("lay " + k + " " + i + " " + cells[i], 1);
        }
        return run;
    }

    private void sheetsAndLanes() {
        for (int k = 0; k < 4; k++) {
            for (int lane = 0; lane < 3; lane++) {
                Run run = laid("SHEETS 0 to 3 of " + LANES[lane], TWO, k, lane, 1, 5);
                for (int as = 0; as < 3; as++) {
                    run.then("read " + k + " " + as + " 0 1 = " + (as == lane ? 1 : 0), "torn = " + (as == lane ? 0 : 3));
                }
                run.then("reader 1 0 = 5");
                for (int other = 0; other < 4; other++) {
                    run.is("lay " + other + " 0 0", other == k ? 1 : -11);
                }
            }
            run("40: lanes are 0 to 2", "", "sheet " + k + " 3 1 = BAD", "sheet " + k + " -1 1 = BAD", "lay " + k + " 0 0 = -11");
        }
        run("40: SHEETS are 0 to 3", "", "sheet 4 0 1 = BAD", "sheet -1 0 1 = BAD", "lay 4 0 0 = BAD", "lay -1 0 0 = BAD",
            "read 4 0 0 1 = BAD", "read -1 0 0 1 = BAD", "sheet MIN 0 1 = BAD", "sheet MAX 0 1 = BAD");
    }

    private void fault4Size() {
        run("40: 0 CELLS, 40 CELLS, BAD above 40", "", "sheet 0 0 0 = 1", "count 3 = 0", "sheet 0 0 40 = 1", "count 3 = 40",
            "sheet 0 0 41 = BAD", "sheet 0 0 MAX = BAD", "count 3 = 40");
        run("40: SIZE, below 0", "", "sheet 0 0 -1 = -14", "sheet 0 1 -1 = -14", "sheet 0 2 MIN = -14", "count 3 = NONE");
        run("40: BAD ahead of SIZE", "", "sheet 4 0 -1 = BAD", "sheet -1 0 -1 = BAD", "sheet 0 3 -1 = BAD", "sheet 0 -1 -1 = BAD");
        laid("40: what SIZE refuses stays", TWO, 0, 1, 1, 5).then("sheet 0 0 -1 = -14", "sheet 0 0 41 = BAD", "count 3 = 2",
            "read 0 1 0 1 = 1", "reader 1 0 = 5");
    }

    private void newRow() {
        laid("40: a new row of CELLS 0", TWO, 2, 2, 1, 5).then("sheet 2 2 2 = 1", "read 2 2 0 1 = 1", "reader 0 0 = 0",
            "reader 1 0 = 3");
        laid("40: also of as many CELLS, of another lane", TWO, 0, 2, 1, 5, 1).then("sheet 0 0 3 = 1", "read 0 0 0 1 = 1",
            "reader 0 0 = 0", "read 0 2 0 1 = 0", "torn = 3");
        laid("40: also of fewer, then of more", TWO, 0, 1, 1, 5, 1, 5).then("sheet 0 1 0 = 1", "sheet 0 1 4 = 1",
            "read 0 1 2 1 = 1", "reader 0 0 = 0", "reader 1 0 = 3");
        run("40: the last CELL of 40, too", TWO, "sheet 0 1 40", "lay 0 38 1 = 1", "lay 0 39 5 = 1", "read 0 1 38 1 = 1",
            "reader 1 0 = 5", "sheet 0 1 40 = 1", "read 0 1 38 1 = 1", "reader 0 0 = 0", "lay 0 38 1 = 1", "read 0 1 38 1 = 1",
            "reader 1 0 = 0");
        laid("40: it alone", TWO, 0, 1, 1, 5).then("sheet 1 1 2 = 1", "read 0 1 0 1 = 1", "reader 1 0 = 5");
    }

    private void layFaults() {
        run("41: NULL", "", "lay 0 0 0 = -11", "lay 0 -1 0 = -11", "lay 0 99 0 = -11");
        run("41: INDEX of 0 CELLS", "", "sheet 0 0 0", "lay 0 0 0 = -12", "lay 0 -1 0 = -12");
        run("41: INDEX of one CELL", "", "sheet 0 0 1", "lay 0 0 0 = 1", "lay 0 1 0 = -12", "lay 0 -1 0 = -12");
        for (int lane = 0; lane < 3; lane++) {
            run("41: INDEX of 40 CELLS", "", "sheet 3 " + lane + " 40", "lay 3 39 0 = 1", "lay 3 40 0 = -12", "lay 3 -1 0 = -12",
                "lay 3 MIN 0 = -12", "lay 3 MAX 0 = -12", "lay 3 0 0 = 1");
        }
        run("41: INDEX of fewer than there were", "", "sheet 0 0 40", "sheet 0 0 5", "lay 0 5 0 = -12", "lay 0 4 0 = 1");
        run("41: BAD: k, ahead of NULL and INDEX", "", "lay 4 -1 0 = BAD", "lay -1 -1 0 = BAD", "lay MIN 0 0 = BAD",
            "lay MAX 0 0 = BAD");
    }

    /** The CORNER that is read, or -20 if it is none. */
    private void cell(int lane, String v, int want) {
        Run run = run("41: its lowest bits, of " + LANES[lane], "reader 3 0 0;", "sheet 0 " + lane + " 2", "lay 0 1 " + v + " = 1",
            "read 0 " + lane + " 0 1 = " + (want < 0 ? want : 1));
        run.is("reader 0 0", want < 0 ? 3 : want);
    }

    private void lowestBits() {
        int[] sizes = {8, 16, 32};
        for (int lane = 0; lane < 3; lane++) {
            long round = 1L << sizes[lane];
            for (int v = 0; v < 8; v++) {
                cell(lane, String.valueOf(v), v);
            }
            cell(lane, "8", -20);
            cell(lane, "-1", -20);
            cell(lane, "MIN", lane == 2 ? -20 : 0);
            cell(lane, "MAX", -20);
            if (lane < 2) {
                cell(lane, String.valueOf(round), 0);
                cell(lane, String.valueOf(round + 7), 7);
                cell(lane, String.valueOf(round + 8), -20);
                cell(lane, String.valueOf(round - 1), -20);
                cell(lane, String.valueOf(-round), 0);
                cell(lane, String.valueOf(-round + 5), 5);
                cell(lane, String.valueOf(round / 2), -20);
                cell(lane, String.valueOf(-round / 2), -20);
                cell(lane, String.valueOf(3 * round + 2), 2);
            }
        }
        cell(1, "256", -20);
        cell(1, "263", -20);
        cell(2, "256", -20);
        cell(2, "65536", -20);
        cell(2, "65543", -20);
        laid("41: the READER's CELL, too", TWO, 0, 0, 257, 5).then("read 0 0 0 1 = 1", "reader 1 0 = 5");
        laid("41: a SHORT is no BYTE", TWO, 0, 1, 257, 5).then("read 0 1 0 1 = -20", "reader 1 0 = 3");
    }

    private void readNone() {
        laid("42: n is 0: none came", TWO, 0, 1, 1, 5).then("read 0 1 0 0 = 0", "torn = 0", "reader 1 0 = 3", "read 0 1 2 0 = 0",
            "torn = 0", "read 0 1 -1 0 = 0", "torn = 0");
        run("42: n is 0: nothing is read of a SHEET that is nothing, of another lane", TWO, "read 3 1 0 0 = 0", "torn = 0",
            "sheet 3 0 2", "read 3 1 0 0 = 0", "torn = 0");
        laid("42: n is 0 to 20", TWO, 0, 1, 1, 5).then("read 0 1 0 -1 = BAD", "read 0 1 0 21 = BAD", "read 0 1 0 MIN = BAD",
            "read 0 1 0 MAX = BAD", "read 0 3 0 1 = BAD", "read 0 -1 0 1 = BAD", "read 4 1 0 1 = BAD", "reader 1 0 = 3",
            "torn = 0", "read 0 1 0 20 = 1", "torn = 2");
        run("42: BAD ahead of what the machine refuses", TWO, "read 0 3 0 1 = BAD", "read 0 0 0 21 = BAD", "read 4 0 -1 1 = BAD",
            "torn = 0");
    }

    private void readAsManyAsThereMayBe() {
        for (int lane = 0; lane < 3; lane++) {
            Run run = run("42: 20 of 40 CELLS", FOUR, "sheet 0 " + lane + " 40");
            for (int i = 0; i < 20; i++) {
                run.then("lay 0 " + 2 * i + " " + i % 4, "lay 0 " + (2 * i + 1) + " " + i / 4);
            }
            run.then("read 0 " + lane + " 0 20 = 20", "torn = 0", "reader 0 0 = 4", "reader 3 0 = 4",
                "read 0 " + lane + " 2 19 = 19", "torn = 0", "read 0 " + lane + " 2 20 = 19", "torn = 2",
                "read 0 " + lane + " 38 1 = 1", "torn = 0", "read 0 " + lane + " 38 2 = 1", "torn = 2");
        }
        laid("42: one", TWO, 1, 2, 0, 6).then("read 1 2 0 1 = 1", "torn = 0", "reader 0 0 = 6", "reader 0 1 = 4",
            "reader 0 2 = 20", "reader 1 0 = 3");
        laid("42: one READER twice: one behind another", TWO, 1, 2, 0, 6, 0, 7).then("read 1 2 0 2 = 2", "reader 0 0 = 7",
            "read 1 2 0 1 = 1", "reader 0 0 = 6");
    }

    private void readFromACell() {
        laid("42: two CELLS each from CELL f on", TWO, 1, 0, 1, 0, 1, 1, 0).then("read 1 0 0 1 = 1", "reader 1 0 = 0",
            "read 1 0 1 1 = 1", "reader 0 0 = 1", "read 1 0 1 2 = 2", "reader 1 0 = 0", "torn = 0", "read 1 0 2 1 = 1",
            "reader 1 0 = 1", "read 1 0 3 1 = 1", "reader 1 0 = 0", "read 1 0 4 1 = 0", "torn = 2", "read 1 0 5 1 = 0",
            "torn = 2");
    }

    private void fault1Null() {
        for (int lane = 0; lane < 3; lane++) {
            run("NULL of whatever lane", TWO, "read 3 " + lane + " 0 1 = 0", "torn = 1", "reader 0 0 = 1");
        }
        run("NULL ahead of INDEX", TWO, "read 3 0 -1 1 = 0", "torn = 1", "read 3 0 MAX 20 = 0", "torn = 1");
    }

    private void fault2Index() {
        run("INDEX of 0 CELLS", TWO, "sheet 0 0 0", "read 0 0 0 1 = 0", "torn = 2", "read 0 0 -1 1 = 0", "torn = 2");
        run("INDEX of one CELL: half a one", TWO, "sheet 0 0 1", "read 0 0 0 1 = 0", "torn = 2", "reader 0 0 = 1");
        laid("INDEX of two", TWO, 0, 0, 0, 6).then("read 0 0 1 1 = 0", "torn = 2", "read 0 0 2 1 = 0", "torn = 2",
            "read 0 0 -1 1 = 0", "torn = 2", "read 0 0 -2 2 = 0", "torn = 2", "reader 0 0 = 1", "read 0 0 0 2 = 1", "torn = 2",
            "reader 0 0 = 6");
        laid("INDEX far off, one that goes round", TWO, 0, 0, 0, 6).then("read 0 0 MAX 1 = 0", "torn = 2", "read 0 0 MAX 20 = 0",
            "read 0 0 MIN 20 = 0", "torn = 2", "read 0 0 2147483646 20 = 0", "torn = 2", "read 0 0 -2147483647 20 = 0",
            "read 0 0 -20 20 = 0", "reader 0 0 = 1");
        run("INDEX of 40 CELLS", TWO, "sheet 0 2 40", "read 0 2 39 1 = 0", "torn = 2", "read 0 2 40 1 = 0", "torn = 2",
            "read 0 2 38 1 = 1", "torn = 0");
    }

    private void fault3Cast() {
        for (int lane = 0; lane < 3; lane++) {
            for (int as = 0; as < 3; as++) {
                if (as != lane) {
                    laid("CAST: another lane", TWO, 2, lane, 0, 6).then("read 2 " + as + " 0 1 = 0", "torn = 3",
                        "reader 0 0 = 1", "read 2 " + lane + " 0 1 = 1", "torn = 0");
                }
            }
        }
    }

    private void whichFaultIsFirst() {
        laid("CAST ahead of INDEX", TWO, 2, 1, 0, 6).then("read 2 0 -1 1 = 0", "torn = 3", "read 2 2 99 1 = 0", "torn = 3");
        run("CAST of 0 CELLS", TWO, "sheet 2 1 0", "read 2 0 0 1 = 0", "torn = 3", "read 2 1 0 1 = 0", "torn = 2");
        laid("CAST ahead of what stand() refuses", TWO, 2, 1, 9, 9).then("read 2 0 0 1 = 0", "torn = 3");
    }

    private void thoseAheadCame() {
        laid("42: what the machine refuses: those whole ahead came", TWO, 1, 1, 0, 6, 1, 5, 0).then("read 1 1 0 20 = 2",
            "torn = 2", "reader 0 0 = 6", "reader 1 0 = 5");
        laid("42: half a one comes not, though it is a READER", TWO, 1, 1, 0, 6, 1).then("read 1 1 0 2 = 1", "torn = 2",
            "reader 0 0 = 6", "reader 1 0 = 3");
        laid("42: half a one is not refused, though it is no READER", TWO, 1, 1, 0, 6, 9).then("read 1 1 0 2 = 1", "torn = 2",
            "reader 0 0 = 6");
    }

    private void refusedByStand() {
        laid("42: -20: the 0th", TWO, 1, 1, 2, 0, 0, 6).then("read 1 1 0 1 = -20", "read 1 1 0 2 = -20", "reader 0 0 = 1");
        laid("42: -21: then none came", TWO, 1, 1, 0, 6, 2, 0).then("read 1 1 0 2 = -21", "reader 0 0 = 1", "read 1 1 0 1 = 1",
            "reader 0 0 = 6");
        laid("42: the first met of two", TWO, 1, 1, 0, 6, 2, 0, 0, 8).then("read 1 1 0 3 = -21", "read 1 1 2 2 = -20",
            "read 1 1 4 1 = -20");
        laid("42: no such CORNER", TWO, 1, 1, 0, 7, 1, 8).then("read 1 1 0 2 = -21", "read 1 1 0 1 = 1", "reader 0 0 = 7");
        laid("42: CORNER below 0", TWO, 1, 1, 0, 0, 1, -1).then("read 1 1 0 2 = -21", "read 1 1 0 1 = 1", "reader 0 0 = 0");
        laid("42: READER below 0", TWO, 1, 1, 0, 0, -1, 0).then("read 1 1 0 2 = -21", "reader 0 0 = 1");
        run("42: no READERS at all", "", "sheet 0 0 2", "read 0 0 0 1 = -20", "read 0 0 0 0 = 0");
        Run last = run("42: -39: the last of 20", FOUR, "sheet 0 2 40", "lay 0 39 8");
        last.then("read 0 2 0 20 = -39", "reader 0 0 = 7", "read 0 2 0 19 = 19", "reader 0 0 = 0");
    }

    private void firstMet() {
        laid("42: refused ahead of what the machine refuses", TWO, 1, 1, 0, 6, 2, 0, 1).then("read 1 1 0 3 = -21", "torn = 0",
            "reader 0 0 = 1");
        laid("42: what the machine refuses, ahead of what would be refused", TWO, 1, 1, 9, 9).then("read 1 1 -1 2 = 0",
            "torn = 2");
    }

    private void tornOfTheLatest() {
        run("43: 0 at first", "", "torn = 0");
        Run run = laid("43: of the latest read() that came to an end", TWO, 1, 1, 0, 6, 2, 0, 0);
        run.then("read 2 0 0 1 = 0", "torn = 1", "read 1 1 4 1 = 0", "torn = 2", "read 1 0 0 1 = 0", "torn = 3",
            "read 1 1 0 1 = 1", "torn = 0", "read 1 0 0 1 = 0", "torn = 3");
        run.then("read 1 1 0 2 = -21", "torn = 3", "read 1 1 0 21 = BAD", "torn = 3", "read 4 1 0 1 = BAD", "torn = 3",
            "read 1 1 0 0 = 0", "torn = 0");
        laid("43: of read() alone", TWO, 1, 1, 0, 6).then("read 1 0 0 1 = 0", "torn = 3", "sheet 0 0 -1 = -14", "torn = 3",
            "lay 3 0 0 = -11", "torn = 3", "lay 1 9 0 = -12", "torn = 3", "sheet 1 0 4 = 1", "torn = 3", "text = 0", "torn = 3");
    }

    private void counts() {
        String text = "street 0 1;thin 4 0 1;old 5 6;" + TWO;
        run("44: what is 0 to 5", text, "count -1 = BAD", "count 6 = BAD", "count MIN = BAD", "count MAX = BAD");
        run("44: 0 SEEN", text, "count 0 = 0", "see 0 4 5 true", "count 0 = 1", "see 0 4 5 true", "count 0 = 2", "forget 1",
            "count 0 = 1");
        run("44: 1 IMAGES", text, "count 1 = 0", "keep 1", "count 1 = 1", "keep 1", "count 1 = 1", "keep 0", "count 1 = 2");
        run("44: 2 bytes on THE TAPE", text, "count 2 = 0", "feed 0", "count 2 = 1", "feed 128 = BAD", "count 2 = 1", "end 0",
            "count 2 = 0");
        run("44: 3 CELLS of SHEET 0, NONE: nothing", text, "count 3 = NONE", "sheet 1 0 7", "count 3 = NONE", "sheet 0 0 0",
            "count 3 = 0", "sheet 0 2 1", "count 3 = 1", "sheet 0 1 40", "count 3 = 40", "sheet 0 1 -1 = -14", "count 3 = 40");
        run("44: 4 CORNERS of all WALKS", text, "count 4 = 3", "shift 0 1", "detour 1 0 7", "count 4 = 3");
        run("44: 4 CORNERS of all WALKS: most", "street 0 1;old 1 0 1 0 1;old 1 0 1 0 1;old 1 0 1 0 1;old 1 0 1 0 1;",
            "count 4 = 16");
        run("44: 5 MINUTES that all READERS are there", text, "count 5 = 77", "stand 0 2 4", "count 5 = 61", "rain 0 59",
            "count 5 = 61");
        run("44: 5: most", "reader 0 0 59;".repeat(4), "count 5 = 240");
    }
}
