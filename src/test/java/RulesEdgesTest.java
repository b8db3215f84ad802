/** The boundary cases of promises 22, 23 and 24: the tape, the RULES as a text, and the FAULT. */
public final class RulesEdgesTest {
    private static final Edges.State LIVELY = Edges::lively;
    private static final Edges.State NEW = MapleLines::new;
    private static final int BLANKS = 0x20202020;

    public static void main(String[] args) {
        feedsUpTo600Bytes();
        feedsAnyNumber();
        feedsTheHighestByteFirst();
        readsTheFirstNBytes();
        readsNoneOfAnEmptyTape();
        readsAnEmptyText();
        readsAFullTape();
        readsBlanksBetweenTokens();
        readsBytesAroundAText();
        readsThreeSigns();
        readsOneToFourDigits();
        readsBytesBehindADigit();
        readsHeatOf0To9();
        readsGradeOf0To4();
        readsUpTo16Statements();
        readsUpTo3Tests();
        takesTokensAsLongAsTheyGo();
        faultsAtTheEndIfMoreMustCome();
        readsNothingOfTheTextAhead();
        holdsNothingOfTheRulesAhead();
        goesByTheLastOf16Statements();
        keepsTheRulesAtAFault();
        tellsTheLatestFault();
        Check.end();
    }

    private static MapleLines tape(int bytes) {
        MapleLines x = Check.boilingBush(1, "grade 1 if look > 5;");
        for (int fed = 0; fed < bytes; fed += 20) {
            x.feed(BLANKS, BLANKS, BLANKS, BLANKS, BLANKS);
        }
        return x;
    }

    private static long feedBlanks(MapleLines x) {
        return x.feed(BLANKS, BLANKS, BLANKS, BLANKS, BLANKS);
    }

    private static void feedsUpTo600Bytes() {
        Edges.takes("the first 20", NEW, RulesEdgesTest::feedBlanks, 20);
        Edges.takes("580 bytes", () -> tape(560), RulesEdgesTest::feedBlanks, 580);
        Edges.fills("600 bytes", () -> tape(580), RulesEdgesTest::feedBlanks, 600, -1);
        Edges.refuses("bytes that are no blanks", () -> tape(600), x -> x.feed(-1, 1, 2, 3, 4), -1);
        Edges.takes("600 are told", () -> tape(600), x -> x.count(11), 600);
        Edges.State emptied = Edges.after(() -> tape(600), x -> x.rules(0));
        Edges.takes("20 behind an emptied tape", emptied, RulesEdgesTest::feedBlanks, 20);
    }

    private static void feedsAnyNumber() {
        int least = Integer.MIN_VALUE;
        int most = Integer.MAX_VALUE;
        Edges.takes("the least int", LIVELY, x -> x.feed(least, least, least, least, least), 40);
        Edges.takes("the greatest int", LIVELY, x -> x.feed(most, most, most, most, most), 40);
        Edges.takes("zeros", LIVELY, x -> x.feed(0, 0, 0, 0, 0), 40);
    }

    private static void feedsTheHighestByteFirst() {
        for (int place = 0; place < 40; place++) {
            StringBuilder text = new StringBuilder(" ".repeat(40));
            text.setCharAt(place, '\u0080');
            dueFault(text.toString(), place);
            text.setCharAt(place, '\u0000');
            dueFault(text.toString(), place);
        }
    }

    private static void readsTheFirstNBytes() {
        Edges.within("n", () -> tape(20), MapleLines::rules, 0, 20, -2);
        Edges.within("n of 600", () -> tape(600), MapleLines::rules, 0, 600, -2);
        Edges.within("n of 20, lively", LIVELY, MapleLines::rules, 0, 20, -2);
        Edges.State some = Edges.after(LIVELY, x -> x.rules(20));
        Edges.takes("the tape is empty then", some, x -> x.count(11), 0);
        Edges.takes("behind n is nothing read", Edges.after(NEW, x -> {
            Check.feed(x, "grade 1 if look > 5; ?");
            return 0;
        }), x -> x.rules(20), 1);
        Edges.State part = Edges.after(LIVELY, x -> x.rules(0));
        Edges.takes("nor kept", part, x -> x.count(11), 0);
        Edges.refuses("nor read later", part, x -> x.rules(1), -2);
    }

    private static void readsNoneOfAnEmptyTape() {
        Edges.takes("rules(0)", NEW, x -> x.rules(0), 0);
        Edges.refuses("rules(1)", NEW, x -> x.rules(1), -2);
        Edges.refuses("rules(-1)", NEW, x -> x.rules(-1), -2);
        Edges.within("n of an empty tape", () -> tape(0), MapleLines::rules, 0, 0, -2);
    }

    private static void readsAnEmptyText() {
        Edges.State emptied = Edges.after(LIVELY, x -> x.rules(0));
        Edges.takes("no statements", LIVELY, x -> x.rules(0), 0);
        Edges.takes("none are told", emptied, x -> x.count(10), 0);
        Edges.takes("no FAULT", emptied, MapleLines::fault, -1);
        Edges.takes("no GRADE but 4", emptied, x -> x.batch(1, 4), 4);
        Edges.takes("blanks", () -> tape(600), x -> x.rules(600), 0);
        Edges.takes("one blank", () -> tape(20), x -> x.rules(1), 0);
    }

    private static void readsAFullTape() {
        StringBuilder text = new StringBuilder();
        for (int i = 0; i < 15; i++) {
            text.append("in pan if day > 9999 then heat 9;\n");
        }
        text.append("grade 4 if look = 0 and look = 0 and look = 0;");
        String padded = " ".repeat(600 - text.length()) + text;
        dueSound(padded, 16);
        dueFault(padded.substring(0, 599) + " ", 600);
        dueFault(padded.substring(0, 599) + "?", 599);
    }

    private static void readsBlanksBetweenTokens() {
        for (int b = 0; b < 256; b++) {
            String text = "in" + (char) b + "pan if day > 1 then draw;";
            if (isBlank(b)) {
                dueSound(text, 1);
            } else {
                dueFault(text, isLetter(b) ? 0 : 2);
            }
        }
        dueSound(" \n \n in \n pan\n\nif  day\n>\n1\nthen\ndraw\n;\n ", 1);
    }

    private static boolean isBlank(int b) {
        return b == 32 || b == 10;
    }

    private static boolean isLetter(int b) {
        return b >= 'a' && b <= 'z';
    }

    private static boolean isDigit(int b) {
        return b >= '0' && b <= '9';
    }

    private static void readsBytesAroundAText() {
        String whole = "grade 1 if day = 1;";
        for (int b = 0; b < 256; b++) {
            String before = (char) b + whole;
            String behind = whole + (char) b;
            if (isBlank(b)) {
                dueSound(before, 1);
                dueSound(behind, 1);
            } else {
                dueFault(before, 0);
                dueFault(behind, whole.length());
            }
        }
    }

    private static void readsThreeSigns() {
        for (int b = 0; b < 256; b++) {
            String text = "grade 1 if day" + (char) b + "1;";
            if (b == '<' || b == '>' || b == '=') {
                dueSound(text, 1);
            } else if (isBlank(b)) {
                dueFault(text, 15);
            } else {
                dueFault(text, isLetter(b) ? 11 : 14);
            }
        }
        dueFault("grade 1 if day 1;", 15);
        dueFault("grade 1 if day <> 1;", 16);
        dueFault("grade 1 if day == 1;", 16);
    }

    private static void readsOneToFourDigits() {
        String[] sound = {"0", "9", "00", "99", "000", "999", "0000", "0009", "9999"};
        for (String number : sound) {
            dueSound("grade 1 if day = " + number + ";", 1);
        }
        String[] faulty = {"00000", "00009", "10000", "99999", "4294967296", "x", "-1"};
        for (String number : faulty) {
            dueFault("grade 1 if day = " + number + ";", 17);
        }
        dueFault("grade 1 if day = 1 1;", 19);
        for (int b = 0; b < 256; b++) {
            String text = "grade 1 if day = " + (char) b + ";";
            if (isDigit(b)) {
                dueSound(text, 1);
            } else {
                dueFault(text, isBlank(b) ? 18 : 17);
            }
        }
    }

    private static void readsBytesBehindADigit() {
        for (int b = 0; b < 256; b++) {
            String text = "grade 1 if day = 1" + (char) b + ";";
            if (isDigit(b) || isBlank(b)) {
                dueSound(text, 1);
            } else {
                dueFault(text, b == ';' ? 19 : 18);
            }
        }
    }

    private static void readsHeatOf0To9() {
        for (String heat : new String[] {"0", "9", "00", "09", "0009", "0000"}) {
            dueSound("in pan if day = 1 then heat " + heat + ";", 1);
        }
        String[] above = {"10", "010", "0010", "99", "9999", "00000", "00009", "65536"};
        for (String heat : above) {
            dueFault("in pan if day = 1 then heat " + heat + ";", 28);
        }
        dueSound("in pan if heat = 10 then draw;", 1);
        dueSound("in pan if heat > 9999 then draw;", 1);
    }

    private static void readsGradeOf0To4() {
        for (String grade : new String[] {"0", "4", "00", "04", "0004", "0000"}) {
            dueSound("grade " + grade + " if day = 1;", 1);
        }
        for (String grade : new String[] {"5", "05", "0005", "9", "10", "9999", "00000", "00004"}) {
            dueFault("grade " + grade + " if day = 1;", 6);
        }
    }

    private static void readsUpTo16Statements() {
        String grades = "grade 1 if day=1;".repeat(15);
        dueSound(grades, 15);
        dueSound(grades + "in pan if day=1 then draw;", 16);
        String full = grades + "grade 1 if day=1;";
        dueSound(full, 16);
        dueSound(full + " \n ", 16);
        dueFault(full + "grade 1 if day=1;", full.length());
        dueFault(full + " \n in pan if day=1 then draw;", full.length() + 3);
        dueFault(full + " in", full.length() + 1);
        dueFault(full + " 7", full.length() + 1);
        dueFault(grades + "grade 1 if day=1", full.length() - 1);
        dueSound("in pan if day=1 then draw;".repeat(16), 16);
        dueFault("in pan if day=1 then draw;".repeat(17), 16 * 26);
        MapleLines x = new MapleLines();
        Check.rules(x, full + "grade 1 if day=1;");
        Check.due("none of 17 are the RULES", x.count(10), 0);
    }

    private static void readsUpTo3Tests() {
        for (String head : new String[] {"grade 1 if ", "in pan if "}) {
            String tail = head.startsWith("in") ? " then draw;" : ";";
            dueSound(head + "day=1" + tail, 1);
            dueSound(head + "day=1 and day=1" + tail, 1);
            String three = head + "day=1 and look=1 and heat=1";
            dueSound(three + tail, 1);
            dueFault(three + " and parts=1" + tail, three.length() + 5);
            dueFault(three + " and \n parts=1" + tail, three.length() + 7);
            dueFault(three + " and" + tail, three.length() + 4 + (tail.equals(";") ? 0 : 1));
            dueFault(three + " and", three.length() + 4);
            dueFault(head + tail, head.length() + (tail.equals(";") ? 0 : 1));
        }
        dueSound("grade 1 if day=1 and day=1 and day=1; grade 1 if day=1 and day=1 and day=1;", 2);
        dueThirdTestCounts();
    }

    private static void dueThirdTestCounts() {
        MapleLines x = Edges.lively();
        x.rules(0);
        Check.rules(x, "grade 3 if look > 0 and parts = 1 and day = 3; grade 2 if look > 0;");
        Check.due("the third TEST doesn't hold", x.batch(1, 4), 2);
        Check.rules(x, "grade 3 if look > 0 and parts = 1 and day = 2; grade 2 if look > 0;");
        Check.due("all three hold", x.batch(1, 4), 3);
    }

    private static void takesTokensAsLongAsTheyGo() {
        dueFault("inpan if day=1 then draw;", 0);
        dueFault("in panif day=1 then draw;", 3);
        dueFault("in pan ifday=1 then draw;", 7);
        dueFault("in pan if day=1 thendraw;", 16);
        dueFault("in pan if day=1 and then draw;", 20);
        dueFault("in pan if day=1 andday=1 then draw;", 16);
        dueSound("in pan if day=1then heat 9;", 1);
        dueSound("in pan if day=1and day=1then heat 9;", 1);
        dueSound("in pan if day=1then heat9;", 1);
        dueSound("grade1if day=1;grade2if day=1;", 2);
        dueFault("grade 12 if day=1;", 6);
        dueFault("grade 1 2 if day=1;", 8);
    }

    private static void faultsAtTheEndIfMoreMustCome() {
        String[] cuts = {"in", "in pan", "in pan if", "in pan if day", "in pan if day >",
            "in pan if day > 1", "in pan if day > 1 and", "in pan if day > 1 then",
            "in pan if day > 1 then heat", "in pan if day > 1 then heat 9",
            "in pan if day > 1 then draw", "grade", "grade 1", "grade 1 if", "grade 1 if day",
            "grade 1 if day <", "grade 1 if day < 1", "grade 1 if day < 1 and"};
        for (String cut : cuts) {
            dueFault(cut, cut.length());
            dueFault(cut + " ", cut.length() + 1);
            dueFault(cut + "\n\n", cut.length() + 2);
            dueFault("grade 0 if look=0;" + cut, 18 + cut.length());
            dueFault(cut + " ?", cut.length() + 1);
        }
    }

    private static void readsNothingOfTheTextAhead() {
        String[] whole = {"in pan if day > 1 and parts = 2 then heat 3;",
            "grade 1 if look < 2 and day = 99 and parts > 1234;", "in pan if look = 1 then draw;"};
        for (String text : whole) {
            MapleLines x = new MapleLines();
            Check.due("rules of \"" + text + "\"", Check.rules(x, text), 1);
            for (int end = text.length() - 1; end > 0; end--) {
                String cut = text.substring(0, end);
                MapleLines y = new MapleLines();
                Check.rules(y, cut);
                Check.due("rules of \"" + cut + "\", cut", Check.rules(x, cut), -1);
                Check.due("fault of \"" + cut + "\", cut", x.fault(), y.fault());
            }
            Check.due("the RULES stay", x.count(10), 1);
        }
    }

    private static MapleLines graded(String... texts) {
        MapleLines x = Check.boilingBush(1, "");
        Check.drawBatch(x, 40);
        x.look(0, 0, 50);
        x.look(0, 1, 50);
        for (String text : texts) {
            Check.rules(x, text);
        }
        return x;
    }

    private static void holdsNothingOfTheRulesAhead() {
        String many = "grade 1 if look = 50;".repeat(16);
        String never = "grade 2 if look = 51;";
        String faulty = "grade 3 if look = 50;".repeat(15) + "grade";
        String[][] runs = {{many, never}, {many, many, never}, {many, never, never},
            {many, faulty, never}, {faulty, never}, {many, faulty, faulty, never},
            {many, ""}, {many, many, ""}, {many, faulty, "", never}};
        for (String[] run : runs) {
            Check.due("the GRADE after " + run.length + " texts", graded(run).batch(0, 4), 4);
        }
        Check.due("the first text stays", graded(many, faulty, faulty).batch(0, 4), 1);
        String heats = "in pan if day > 0 then heat 7;";
        MapleLines x = graded(heats.repeat(3), heats.repeat(3), "in pan if day = 0 then heat 8;");
        x.let(40);
        x.boil(1);
        Check.due("HEAT of the texts ahead", x.pan(2), 0);
    }

    private static void goesByTheLastOf16Statements() {
        String grades = "grade 1 if look = 51;".repeat(15);
        Check.due("the 16th", graded(grades + "grade 3 if look = 50;").batch(0, 4), 3);
        Check.due("none of 16", graded(grades + "grade 3 if look = 51;").batch(0, 4), 4);
        String heats = "in pan if day=0 then heat 1;".repeat(15);
        for (int day = 0; day <= 1; day++) {
            MapleLines x = graded(heats + "in pan if day=" + day + " then heat 9;");
            x.let(40);
            Check.due("boil", x.boil(1), 1);
            Check.due("16 statements, of which the last holds " + day, x.pan(2), day * 9);
        }
    }

    private static void keepsTheRulesAtAFault() {
        Edges.State faulty = Edges.after(() -> tape(0), x -> {
            Check.feed(x, "grade 2 if look > 5; grade 3 if look > 5");
            return 0;
        });
        Edges.takes("a FAULT", faulty, x -> x.rules(40), -1);
        Edges.State after = Edges.after(faulty, x -> x.rules(40));
        Edges.takes("the tape is empty", after, x -> x.count(11), 0);
        Edges.takes("statements", after, x -> x.count(10), 3);
        Edges.State looked = Edges.after(after, x -> {
            Check.drawBatch(x, 40);
            return Edges.truth(x.look(0, 0, 6)) + Edges.truth(x.look(0, 1, 6));
        });
        Edges.takes("the RULES stay", looked, x -> x.batch(0, 4), 1);
    }

    private static void tellsTheLatestFault() {
        Edges.takes("none at first", NEW, MapleLines::fault, -1);
        Edges.takes("of GRADE 5", LIVELY, MapleLines::fault, 6);
        Edges.refuses("asking changes nothing", LIVELY, MapleLines::fault, 6);
        Edges.takes("-2 leaves it", Edges.after(LIVELY, x -> x.rules(21)), MapleLines::fault, 6);
        Edges.takes("-2 leaves it", Edges.after(LIVELY, x -> x.rules(-1)), MapleLines::fault, 6);
        Edges.State sound = Edges.after(LIVELY, x -> x.rules(20));
        Edges.takes("a sound text ends it", sound, MapleLines::fault, -1);
        Edges.takes("-2 leaves none", Edges.after(sound, x -> x.rules(1)), MapleLines::fault, -1);
        Edges.takes("another FAULT", Edges.after(LIVELY, x -> x.rules(10)), MapleLines::fault, 10);
        Edges.takes("an empty text ends it", Edges.after(LIVELY, x -> x.rules(0)),
                MapleLines::fault, -1);
        dueFault("?", 0);
    }

    private static void dueSound(String text, int statements) {
        MapleLines x = new MapleLines();
        Check.due("rules of \"" + text + "\"", Check.rules(x, text), statements);
        Check.due("fault of \"" + text + "\"", x.fault(), -1);
        Check.due("statements of \"" + text + "\"", x.count(10), statements);
    }

    private static void dueFault(String text, int place) {
        MapleLines x = new MapleLines();
        Check.due("rules of \"" + text + "\"", Check.rules(x, text), -1);
        Check.due("fault of \"" + text + "\"", x.fault(), place);
        Check.due("statements of \"" + text + "\"", x.count(10), 0);
    }
}
