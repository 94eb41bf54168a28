/** THE TAPE, its TOKENS, the FAULTS 1 to 6 of a text and their places: each sentence by itself. */
public final class TapeTest {
    /** Each line there is, and each length of a WALK. */
    private static final String[] LINES = {"street 0 7;", "reader 7 0 59;", "rain 0 59;", "plain 9 7;", "thin 0 0 1;",
        "stout 4 0 1 2;", "old 5 0 1 2 3;"};
    /** Enough of them for each WALK in LINES. */
    private static final String STREETS = "street 0 1;street 1 2;street 2 0;street 2 3;street 3 0;";
    private static final String[] KINDS = {"plain", "thin", "stout", "old"};
    private static final int ROOM = 160;

    private final Due due = new Due();

    public static void main(String[] args) {
        TapeTest t = new TapeTest();
        t.tapeHas160Bytes();
        t.placesFrom0();
        t.endKeepsTheFirst();
        t.tokensAreAsLongAsMayBe();
        t.blanksAreBetween();
        t.eachByteAlone();
        t.fault1NoToken();
        t.fault1TooLong();
        t.fault2BeginsNoLine();
        t.fault2CanNotStandThere();
        t.fault2TheEnd();
        t.fault3Bounds();
        t.fault3StreetAlike();
        t.fault3UntilBelowFrom();
        t.fault4RainAgain();
        t.fault5FifthMan();
        t.fault5FifthReader();
        t.fault5TenthStreet();
        t.fault5FifthCorner();
        t.fault6NoStreet();
        t.fault6BehindAll();
        t.firstMetIsTold();
        t.linesAreCounted();
        t.takenTellsAll();
        t.refusedTellsNothing();
        t.faultOfTheLatest();
        t.due.finish("TapeTest");
    }

    private Run run(String sentence, String text, String... rows) {
        return Run.of(due, sentence, text, rows);
    }

    /** The place of the FAULT is how long the text ahead of it is. */
    private void faulty(String sentence, int fault, String ahead, String at) {
        Run.of(due, sentence + " [" + ahead + "|" + at + "]", "").tell(ahead + at, fault, ahead.length());
    }

    private void taken(String sentence, String text, int lines) {
        Run.of(due, sentence + " [" + text + "]", "").tell(text, 0, lines);
    }

    private static String filled(String text) {
        return text + " ".repeat(ROOM - text.length());
    }

    private void tapeHas160Bytes() {
        run("2: a byte is 0 to 127", "", "feed 0 = 1", "feed 127 = 2", "feed -1 = BAD", "feed 128 = BAD", "feed MIN = BAD",
            "feed MAX = BAD", "feed 256 = BAD", "count 2 = 2");
        run("2: the 160th comes, the 161st is FULL", "", "type " + " ".repeat(159), "feed 32 = 160", "feed 32 = FULL",
            "count 2 = 160");
        run("2: BAD ahead of FULL", "", "type " + " ".repeat(160), "feed 128 = BAD", "feed -1 = BAD");
        run("2: what is FULL is not behind THE TAPE", "", "type " + filled("rain 7 8;"), "feed 38 = FULL", "text = 1",
            "fault = 0", "rule 3 = 7");
        run("2: room again behind end()", "", "type " + " ".repeat(160), "end 159 = 160", "feed 38 = 160", "feed 32 = FULL",
            "text = -169", "fault = 1");
        run("4: THE TAPE is empty behind a text that is taken", "", "type " + " ".repeat(160), "text = 0", "feed 32 = 1");
        run("4: THE TAPE is empty behind a text that is refused", "", "type " + "&".repeat(160), "text = -10", "feed 32 = 1");
    }

    private void placesFrom0() {
        faulty("places: the first byte is 0", 1, "", "&");
        faulty("places: the last byte is 159", 1, " ".repeat(159), "&");
        faulty("places: the last byte is 159", 2, " ".repeat(159), ";");
        faulty("places: the length is 160 (2)", 2, filled("rain 1 2"), "");
        faulty("places: the length is 160 (6)", 6, filled("old 1 0 1;"), "");
        taken("a text of 160 bytes", " ".repeat(151) + "rain 1 2;", 1);
        taken("a text of 160 bytes", filled("rain 1 2;"), 1);
    }

    private void endKeepsTheFirst() {
        run("3: of none", "", "end 0 = 0", "end 1 = BAD", "end -1 = BAD", "end MIN = BAD", "end MAX = BAD");
        run("3: of one", "", "feed 59", "end 2 = BAD", "end 1 = 1", "end 0 = 1", "count 2 = 0");
        run("3: of 160", "", "type " + " ".repeat(160), "end 161 = BAD", "end -1 = BAD", "end 160 = 160", "end 159 = 160",
            "end 160 = BAD", "count 2 = 159");
        run("3: the first bytes stay", "", "type rain 1 2;rain 3 4;", "end 9 = 18", "text = 1", "rule 3 = 1", "rule 4 = 2");
        run("3: what comes behind end() is behind them", "", "type rain 1 2;boy", "end 7 = 12", "type 5;", "text = 1",
            "rule 4 = 5");
        run("3: n bytes are kept, n - 1 are not enough", "", "type rain 1 2;", "end 8 = 9", "text = -18", "fault = 2");
    }

    private void tokensAreAsLongAsMayBe() {
        faulty("a NAME goes on as far as it may", 2, "", "rainrain 1 2;");
        faulty("a NAME ends with its blank", 2, "", "ra in 1 2;");
        faulty("a NUMBER goes on as far as it may", 2, "rain 12", ";");
        faulty("a NUMBER ends with its blank", 2, "rain 1 2 ", "3;");
        taken("a NUMBER ends where a ; is", "rain 1 2;", 1);
        taken("a NAME ends where a NUMBER is", "rain1 2;", 1);
        faulty("a NUMBER ends where a NAME is", 2, "rain 1", "x 2;");
        taken("a ; ends with itself", "rain 1 2;old 1 1;", 2);
        faulty("a ; ends with itself", 2, "rain 1 2;", ";");
        run("a NUMBER of 1 figure, of 2", "").tell("rain 5 05;", 0, 1).then("rule 3 = 5", "rule 4 = 5")
            .tell("rain 00 00;", 0, 1).then("rule 3 = 0", "rule 4 = 0").tell("rain 10 59;", 0, 1)
            .then("rule 3 = 10", "rule 4 = 59");
    }

    private void blanksAreBetween() {
        taken("no byte at all", "", 0);
        taken("one blank", " ", 0);
        taken("160 blanks", " ".repeat(160), 0);
        taken("blanks ahead of all TOKENS and behind them", "   rain   1   2   ;   ", 1);
        for (int c : new int[] {0, 9, 10, 13, 31, 33}) {
            faulty("32 alone is a blank, not " + c, 1, "rain 1 2;", (char) c + " ");
            faulty("32 alone is a blank, not " + c, 1, "rain", (char) c + "1 2;");
        }
    }

    private static boolean isLetter(int c) {
        return c >= 'a' && c <= 'z';
    }

    private static boolean isFigure(int c) {
        return c >= '0' && c <= '9';
    }

    /** Each of the 128 bytes: where a line begins, where a NUMBER stands, where a ; stands, in a NAME, in a NUMBER. */
    private void eachByteAlone() {
        for (int c = 0; c < 128; c++) {
            String sign = String.valueOf((char) c);
            boolean isToken = isLetter(c) || isFigure(c) || c == ';';
            if (c == ' ') {
                continue;
            }
            faulty("byte " + c + " begins no line", isToken ? 2 : 1, "", sign);
            if (isFigure(c)) {
                taken("byte " + c + " is a NUMBER", "rain " + sign + " 2;", 1);
                faulty("byte " + c + " is no ;", 2, "rain 1 2 ", sign);
                faulty("byte " + c + " makes a NUMBER too long", 1, "rain ", "10" + sign + " 2;");
            } else {
                faulty("byte " + c + " is no NUMBER", isToken ? 2 : 1, "rain ", sign + " 2;");
                faulty("byte " + c + " ends a NUMBER", isToken ? 2 : 1, "rain 10", sign + " 2;");
            }
            if (!isFigure(c) && c != ';') {
                faulty("byte " + c + " is no ;", isToken ? 2 : 1, "rain 1 2", sign);
            }
            if (isLetter(c)) {
                faulty("byte " + c + " makes another NAME", 2, "", "rain" + sign + "1 2;");
            }
        }
    }

    private void fault1NoToken() {
        faulty("1: no TOKEN, ahead of all", 1, "", "& rain 1 2;");
        faulty("1: no TOKEN, in a NAME", 2, "", "ra&in 1 2;");
        faulty("1: no TOKEN, behind a NAME", 1, "rain", "& 1 2;");
        faulty("1: no TOKEN, in a NUMBER", 1, "rain 1", "-1 2;");
        faulty("1: no TOKEN, behind all", 1, "rain 1 2; ", "&");
        faulty("1: letters that are great", 1, "", "RAIN 1 2;");
        faulty("1: a NUMBER below 0", 1, "rain ", "-1 2;");
    }

    private void fault1TooLong() {
        faulty("1: 3 figures: the first byte", 1, "rain ", "123 2;");
        faulty("1: 3 figures, though it is small", 1, "rain ", "001 2;");
        faulty("1: 3 figures, the last NUMBER", 1, "rain 1 ", "000;");
        faulty("1: 160 figures", 1, "", "9".repeat(160));
        faulty("1: figures that go round an int", 1, "rain ", "4294967297 2;");
        faulty("1: too long where no NUMBER can stand", 1, "", "123");
        faulty("1: too long where a ; stands", 1, "rain 1 2 ", "123");
        faulty("1: too long as a 5th CORNER", 1, STREETS + "old 1 0 1 2 3 ", "000;");
        taken("1: 2 figures are not too long", "rain 12 34;", 1);
    }

    private void fault2BeginsNoLine() {
        for (String name : new String[] {"plain", "thin", "stout", "old", "street", "reader", "rain"}) {
            faulty("2: a letter too few", 2, "", name.substring(0, name.length() - 1) + " 1 2;");
            faulty("2: a letter too few ahead", 2, "", name.substring(1) + " 1 2;");
            faulty("2: a letter too many", 2, "", name + "s 1 2;");
            faulty("2: a letter too many ahead", 2, "", "a" + name + " 1 2;");
            faulty("2: another last letter", 2, "", name.substring(0, name.length() - 1) + "z 1 2;");
            faulty("2: another first letter", 2, "", "z" + name.substring(1) + " 1 2;");
            faulty("2: behind a line", 2, "rain 1 2;", "z" + name + " 1;");
        }
        faulty("2: a NUMBER begins no line", 2, "", "1");
        faulty("2: a ; begins no line", 2, "", ";");
        faulty("2: a NUMBER begins no line behind one", 2, "rain 1 2; ", "1");
        faulty("2: a ; begins no line behind one", 2, "rain 1 2; ", ";");
        faulty("2: a NAME of 160 letters", 2, "", "r".repeat(160));
    }

    /** At each place of each line one TOKEN is put in place of the one that is due. */
    private void fault2CanNotStandThere() {
        for (String line : LINES) {
            String[] tokens = line.replace(";", " ;").split(" ");
            boolean isMan = !line.startsWith("street") && !line.startsWith("rain") && !line.startsWith("reader");
            String ahead = STREETS;
            for (int i = 0; i < tokens.length; i++) {
                String behind = " 1;";
                boolean isNumber = i > 0 && isFigure(tokens[i].charAt(0));
                if (i > 0) {
                    faulty("2: a NAME can not stand there", 2, ahead, "rain" + behind);
                    faulty("2: any NAME can not stand there", 2, ahead, "a" + behind);
                }
                if (isNumber && !(isMan && i > 2)) {
                    faulty("2: a ; can not stand there", 2, ahead, ";" + behind);
                }
                if (tokens[i].equals(";") && !isMan) {
                    faulty("2: a NUMBER can not stand there", 2, ahead, "1" + behind);
                }
                ahead += tokens[i] + " ";
            }
            taken("2: as it is, it can", STREETS + line, 6);
        }
        faulty("2: a WALK of no CORNER", 2, "plain 1", ";");
        faulty("2: a MAN without a NEWS", 2, "plain", ";");
    }

    private void fault2TheEnd() {
        for (String line : LINES) {
            String[] tokens = line.replace(";", " ;").split(" ");
            String ahead = STREETS;
            for (int i = 0; i < tokens.length - 1; i++) {
                ahead += (i == 0 ? "" : " ") + tokens[i];
                faulty("2: the end: the length", 2, ahead, "");
                faulty("2: the end: the length, blanks too", 2, ahead + "   ", "");
            }
        }
    }

    /** A NUMBER out of its bounds: line, with * for the NUMBER, and the most that it may be. */
    private static final String[][] BOUNDS = {{"street * 6;", "7"}, {"street 6 *;", "7"}, {"reader * 0 0;", "7"},
        {"reader 0 * 59;", "59"}, {"reader 0 0 *;", "59"}, {"rain * 0;", "59"}, {"rain 0 *;", "59"}, {"plain * 0;", "9"},
        {"thin * 0;", "9"}, {"stout * 0;", "9"}, {"old * 0;", "9"}, {"plain 0 *;", "7"}, {"thin 0 *;", "7"},
        {"stout 0 *;", "7"}, {"old 0 *;", "7"}};

    private void fault3Bounds() {
        for (String[] bound : BOUNDS) {
            int star = bound[0].indexOf('*');
            String ahead = bound[0].substring(0, star), behind = bound[0].substring(star + 1);
            int most = Integer.parseInt(bound[1]);
            for (int v = 0; v < 100; v++) {
                if (v == 6 && bound[0].startsWith("street")) {
                    continue;
                }
                if (v <= most) {
                    taken("3: within its bounds", ahead + v + behind, 1);
                } else {
                    faulty("3: out of its bounds", 3, ahead, v + behind);
                }
            }
            taken("3: two figures within", ahead + "00" + behind, 1);
        }
        faulty("3: two figures out", 3, "old 0 ", "08;");
        for (int i = 1; i < 4; i++) {
            String ahead = "street 6 7;old 1 " + "6 7 6 ".substring(0, 2 * i);
            faulty("3: CORNER " + i + " of a WALK", 3, ahead, "8;");
            faulty("3: CORNER " + i + " of a WALK", 3, ahead, "99;");
        }
    }

    private void fault3StreetAlike() {
        for (int c = 0; c < 8; c++) {
            faulty("3: street: the second alike with the first", 3, "street " + c + " ", c + ";");
            faulty("3: alike though written otherwise", 3, "street " + c + " ", "0" + c + ";");
            taken("3: not alike", "street " + c + " " + (c + 1) % 8 + ";", 1);
        }
        faulty("3: alike, told of the second, not of the ; that lacks", 3, "street 3 ", "3 x");
    }

    private void fault3UntilBelowFrom() {
        faulty("3: UNTIL below FROM", 3, "reader 0 1 ", "0;");
        faulty("3: UNTIL below FROM", 3, "reader 0 59 ", "58;");
        taken("3: UNTIL no less than FROM", "reader 0 0 0;", 1);
        taken("3: UNTIL no less than FROM", "reader 0 59 59;", 1);
        taken("3: UNTIL no less than FROM", "reader 0 30 31;", 1);
        faulty("3: FROM out of its bounds, ahead of UNTIL", 3, "reader 0 ", "60 60;");
    }

    private void fault4RainAgain() {
        faulty("4: rain for the second time: its NAME", 4, "rain 1 2;", "rain 1 2;");
        faulty("4: rain for none twice", 4, "rain 0 0;", "rain 0 0;");
        faulty("4: with lines between", 4, "rain 1 2;old 1 1; ", "rain 1 2;");
        faulty("4: its NAME, ahead of its faults", 4, "rain 1 2;", "rain 99 &");
        faulty("4: its NAME, ahead of the end", 4, "rain 1 2;", "rain");
        run("4: once in each text", "").tell("rain 1 2;", 0, 1).tell("rain 3 4;", 0, 1).tell("rain 5 6;rain 7 8;", 4, 9)
            .tell("rain 9 9;", 0, 1).then("rule 3 = 9");
    }

    private void fault5FifthMan() {
        for (String kind : KINDS) {
            taken("5: four MEN", (kind + " 1 1;").repeat(4), 4);
            faulty("5: the 5th MAN: his NAME", 5, (kind + " 1 1;").repeat(4) + " ", kind + " 1 1;");
            faulty("5: the 5th MAN of all KINDS", 5, "plain 1 1;thin 1 1;stout 1 1;old 1 1;", kind + " 1 1;");
        }
        faulty("5: the 5th MAN, ahead of his faults", 5, "old 1 1;".repeat(4), "old 99 &");
        run("5: four in each text", "").tell("old 1 1;".repeat(4), 0, 4).tell("old 1 1;".repeat(4), 0, 4)
            .tell("old 1 1;".repeat(5), 5, 32).tell("old 1 1;".repeat(4), 0, 4);
    }

    private void fault5FifthReader() {
        taken("5: four readers", "reader 1 1 1;".repeat(4), 4);
        faulty("5: the 5th reader: its NAME", 5, "reader 1 1 1;".repeat(4) + " ", "reader 1 1 1;");
        faulty("5: the 5th reader, ahead of its faults", 5, "reader 1 1 1;".repeat(4), "reader 99 &");
        run("5: four in each text", "").tell("reader 1 1 1;".repeat(4), 0, 4).tell("reader 1 1 1;".repeat(4), 0, 4);
    }

    private void fault5TenthStreet() {
        taken("5: nine streets", "street 0 1;".repeat(9), 9);
        faulty("5: the 10th street: its NAME", 5, "street 0 1;".repeat(9) + " ", "street 0 1;");
        faulty("5: the 10th street, ahead of its faults", 5, "street 0 1;".repeat(9), "street 99 &");
        run("5: those that were are not counted", "street 0 1;", "pave 1 2 = 2").tell("street 0 1;".repeat(9), 0, 9);
    }

    private void fault5FifthCorner() {
        String four = STREETS + "old 1 0 1 2 3";
        taken("5: four CORNERS", four + ";", 6);
        for (String fifth : new String[] {"0", "7", "8", "99", "00"}) {
            faulty("5: a 5th CORNER, whether it is one or not: its NUMBER", 5, four + " ", fifth + ";");
        }
        faulty("5: a 5th, ahead of a 6th", 5, four + " ", "0 &");
        faulty("5: a 5th TOKEN that is no NUMBER", 2, four + " ", "x;");
        faulty("5: the end in place of a 5th", 2, four + "  ", "");
        faulty("5: no TOKEN in place of a 5th", 1, four + " ", "&");
        faulty("5: the 4th is out of its bounds", 3, STREETS + "old 1 0 1 2 ", "8 0;");
    }

    private void fault6NoStreet() {
        for (int c = 0; c < 8; c++) {
            taken("6: a WALK of one CORNER needs none", "old 1 " + c + ";", 1);
            faulty("6: none to itself", 6, "street 0 1;old 1 " + c + " " + c + ";", "");
        }
        faulty("6: no STREET at all", 6, "old 1 0 1;", "");
        faulty("6: another STREET", 6, "street 0 2;old 1 0 1;", "");
        taken("6: there is one", "street 0 1;old 1 0 1;", 2);
        taken("6: there is one, the other way", "street 1 0;old 1 0 1;", 2);
        taken("6: it may come behind the MAN", "old 1 0 1;street 1 0;", 2);
        taken("6: the last of nine", "street 2 3;".repeat(8) + "street 1 0;old 1 0 1;", 10);
        faulty("6: from the last to the first", 6, "street 0 1;street 1 2;old 1 0 1 2;", "");
        taken("6: from the last to the first there is one", "street 0 1;street 1 2;street 2 0;old 1 0 1 2;", 4);
        faulty("6: from the first to the second", 6, "street 1 2;street 2 0;old 1 0 1 2;", "");
        faulty("6: from the second to the third", 6, "street 0 1;street 2 0;old 1 0 1 2;", "");
        faulty("6: the last alike with the first", 6, "street 0 1;old 1 0 1 0;", "");
        faulty("6: from the third to the fourth", 6, "street 0 1;street 1 2;street 3 0;old 1 0 1 2 3;", "");
        taken("6: there and back, twice", "street 0 1;old 1 0 1 0 1;", 2);
        faulty("6: of the last MAN", 6, "street 0 1;old 1 0 1;old 1 1 0;old 1 2;old 1 2 3;", "");
        faulty("6: of the first MAN", 6, "street 0 1;old 1 2 3;old 1 1 0;old 1 2;", "");
        faulty("6: STREETS that were do not help", 6, "old 1 0 1;", "");
        run("6: STREETS that were do not help", "street 0 1;", "pave 0 1 = 2").tell("old 1 0 1;", 6, 10);
    }

    private void fault6BehindAll() {
        faulty("6: the length, blanks too", 6, "old 1 0 1;   ", "");
        faulty("6: behind all, so another is met first", 1, "old 1 0 1;", "&");
        faulty("6: behind all, so another is met first", 2, "old 1 0 1;", "boy");
        faulty("6: behind all, so another is met first", 2, "old 1 0 1;rain 1 2", "");
        faulty("6: behind all, so another is met first", 3, "old 1 0 1;rain 1 ", "60;");
        faulty("6: behind all, so another is met first", 4, "old 1 0 1;rain 1 2;", "rain 1 2;");
        faulty("6: behind all, so another is met first", 5, "old 1 0 1;".repeat(4), "old 1 0 1;");
    }

    /** A TOKEN is read when the one before has been taken. */
    private void firstMetIsTold() {
        faulty("3 ahead of 1", 3, "rain ", "60 &");
        faulty("1 ahead of 3", 1, "rain ", "& 60");
        faulty("2 ahead of 1", 2, "", "boy &");
        faulty("2 ahead of 3", 2, "rain ", "x 60;");
        faulty("3 ahead of 2", 3, "rain ", "60 x;");
        faulty("3 ahead of 4", 3, "rain 1 ", "60;rain 1 2;");
        faulty("3 ahead of 5", 3, "old 1 1;".repeat(3) + "old 1 ", "8;old 1 1;");
        faulty("the first of two alike", 3, "rain ", "60 60;");
        faulty("the NEWS ahead of the CORNER", 3, "old ", "10 8;");
        faulty("the number's bounds ahead of the end", 3, "old ", "10");
    }

    private void linesAreCounted() {
        taken("4: how many lines: none", "", 0);
        for (String line : LINES) {
            taken("4: how many lines: one", line.replaceAll("^(thin|stout|old).*", "$1 1 1;"), 1);
        }
        taken("4: sixteen, all that 160 bytes can tell",
            "old1 1;".repeat(4) + "reader1 1 1;".repeat(3) + "street0 1;".repeat(9), 16);
        taken("4: streets told twice are two lines", "street 0 1;street 1 0;street 0 1;", 3);
    }

    private void takenTellsAll() {
        String[] all = {"keep 0", "keep 1", "see 0 2 5 true", "sheet 0 1 5", "pave 5 6", "lay 0 0 3"};
        String many = STREETS + "plain1 5;thin2 0 1;reader0 0 59;rain12 4;";
        run("1: a text that is taken: nothing is SEEN", many, all).tell("old 8 6;", 0, 1).then("count 0 = 0", "forget 0 = 0",
            "kinds 0 = 15");
        run("1: a text that is taken: IMAGES are gone", many, all).tell("old 8 6;", 0, 1).then("count 1 = 0", "back 0 = STATE",
            "back 1 = STATE", "keep 0 = 0", "keep 1 = 0");
        run("1: a text that is taken tells MEN in place of those", many, all).tell("old 8 6;", 0, 1).then("rule 0 = 1",
            "man 0 0 = 3", "man 0 1 = 8", "man 0 3 = 1", "walk 0 0 = 6", "man 1 0 = BAD", "count 4 = 1");
        run("1: MEN and READERS who were are read no more, read no more", "street 0 1;thin 1 0 1;thin 2 0 1;thin 3 1 0;thin 4 1 0;"
            + "reader 0 0 59;reader 1 0 59;reader 0 0 59;reader 1 0 59;", "rule 5 = 16").tell("old 1 6;reader 0 0 59;", 0, 2)
            .then("rule 5 = 0", "knows 0 59 0 = 0", "knows 0 59 1 = 0", "all 2 = 0", "first 0 2 = NONE", "mean 0 0 = 0",
                "best 0 1 = 0", "count 4 = 1", "count 5 = 60").tell("street 0 1;thin 1 0 1;reader 0 0 59;", 0, 3)
            .then("rule 5 = 1", "all 1 = 1", "mean 0 0 = 1", "best 0 1 = 1");
        run("1: a text that is taken tells STREETS in place of those", many, all).tell("street 7 6;", 0, 1).then("rule 1 = 1",
            "street 0 0 = 7", "street 0 1 = 6", "street 1 0 = BAD");
        run("1: a text that is taken tells READERS in place of those", many, all).tell("reader 7 58 59;reader 6 0 1;", 0, 2)
            .then("rule 2 = 2", "reader 0 0 = 7", "reader 0 1 = 58", "reader 0 2 = 59", "reader 1 0 = 6", "reader 2 0 = BAD");
        run("1: RAIN that is not told is 0, 0", many, all).tell("old 8 6;", 0, 1).then("rule 3 = 0", "rule 4 = 0");
        run("4: an empty THE TAPE tells all: none", many, all).then("text = 0", "rule 0 = 0", "rule 1 = 0", "rule 2 = 0",
            "rule 3 = 0", "rule 4 = 0", "rule 5 = 0", "count 0 = 0", "count 1 = 0", "man 0 0 = BAD", "reader 0 0 = BAD",
            "street 0 0 = BAD");
        run("1: SHEETS are not told by a text", many, all).tell("reader 0 0 0;reader 0 0 0;reader 0 0 0;reader 5 0 0;", 0, 4)
            .then("count 3 = 5", "read 0 1 0 1 = 1", "reader 3 0 = 0");
        run("43: torn() is not told by a text", many, "read 0 0 0 1 = 0", "torn = 1").tell("old 8 6;", 0, 1).then("torn = 1");
    }

    /** Run looks at all that is held, behind each text that is refused. */
    private void refusedTellsNothing() {
        String many = STREETS + "plain1 5;thin2 0 1;stout3 0 1 2;reader0 0 59;reader1 3 40;rain12 4;";
        String[] all = {"keep 0", "alter 1 1 7", "keep 1", "see 0 2 5 true", "sheet 2 1 4", "lay 2 1 1", "shift 1 1"};
        String[][] texts = {{"1", "old 1 1;", "&"}, {"2", "old 1 1;reader 1 1 1;", "boy"}, {"2", "rain 9 9", ""},
            {"3", "old 1 1;rain 9 ", "60;"}, {"4", "rain 9 9;", "rain 9 9;"}, {"5", "old 1 1;".repeat(4), "old 1 1;"},
            {"6", "old 1 0 1;", ""}};
        for (String[] text : texts) {
            run("4: that which was told stays, behind FAULT " + text[0], many, all)
                .tell(text[1] + text[2], Integer.parseInt(text[0]), text[1].length())
                .then("rule 0 = 3", "rule 1 = 5", "rule 2 = 2", "rule 3 = 12", "rule 4 = 4", "count 0 = 1", "count 1 = 2",
                    "man 1 1 = 7", "walk 1 0 = 1", "back 0 = 4", "man 1 1 = 2", "walk 1 0 = 0");
        }
    }

    private void faultOfTheLatest() {
        run("5: 0 at first", "", "fault = 0");
        run("5: of the latest text()", "").tell("&", 1, 0).tell("boy", 2, 0).tell("old 1 0 1;", 6, 10).tell("rain 1 2;", 0, 1)
            .tell("rain 1 60;", 3, 7).tell("", 0, 0);
        run("5: no other call changes it", "").tell("rain 1 60;", 3, 7).then("feed 38", "fault = 3", "end 0", "fault = 3",
            "feed 128 = BAD", "fault = 3", "sheet 0 0 -1 = -14", "fault = 3", "lay 0 0 0 = -11", "fault = 3",
            "read 0 0 0 1 = 0", "fault = 3", "keep 0", "back 0", "fault = 3");
    }
}
