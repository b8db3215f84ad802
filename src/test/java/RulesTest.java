/** Promises 22, 23 and 24: feed, rules and fault. */
public final class RulesTest {
    public static void main(String[] args) {
        feeds();
        takesBytesHighestFirst();
        readsSoundTexts();
        tellsFaults();
        tellsFaultsAtTheEnd();
        tellsFaultsOfOddBytes();
        limitsStatementsAndTests();
        keepsRulesAtAFault();
        refusesOddLengths();
        endsTokensWhereTheTextEnds();
        Check.end();
    }

    private static void feeds() {
        MapleLines x = new MapleLines();
        for (int bytes = 20; bytes <= 600; bytes += 20) {
            Check.due("feed", x.feed(-1, 0, 1, Integer.MIN_VALUE, Integer.MAX_VALUE), bytes);
        }
        Check.due("feed above 600", x.feed(0, 0, 0, 0, 0), -1);
        Check.due("bytes", x.count(11), 600);
        Check.due("rules(601)", x.rules(601), -2);
        Check.due("rules(600)", x.rules(600), -1);
        Check.due("the tape is empty", x.count(11), 0);
        Check.due("feed again", x.feed(0, 0, 0, 0, 0), 20);
    }

    private static void takesBytesHighestFirst() {
        MapleLines x = new MapleLines();
        x.feed(0x67726164, 0x65203320, 0x6966206c, 0x6f6f6b3d, 0x31303b00);
        Check.due("grade 3 if look=10;", x.rules(19), 1);
        x.feed(0x20202020, 0x20202020, 0x20202020, 0x20202020, 0x2020200a);
        x.feed(0x200a2020, 0x20202020, 0xff202020, 0x20202020, 0x20202020);
        Check.due("blanks, then 255", x.rules(40), -1);
        Check.due("its place", x.fault(), 28);
    }

    private static void dueSound(String text, int statements) {
        MapleLines x = new MapleLines();
        Check.due("rules of " + text, Check.rules(x, text), statements);
        Check.due("fault of " + text, x.fault(), -1);
        Check.due("statements of " + text, x.count(10), statements);
    }

    private static void readsSoundTexts() {
        dueSound("", 0);
        dueSound("  \n ", 0);
        dueSound("in pan if strength>659 then draw;", 1);
        dueSound("in\npan\nif\nparts\n<\n1\nthen\nheat\n0\n;\n", 1);
        dueSound("in pan if heat=9then heat 9;grade 0if look<9999;", 2);
        dueSound("in pan if minutes>0000and day=9999and look=1then heat 0009;", 1);
        dueSound("grade 4 if day = 1 and heat = 2 and minutes = 3;", 1);
        dueSound("grade 0004 if day = 1;", 1);
    }

    private static void dueFault(String text, int place) {
        MapleLines x = new MapleLines();
        Check.due("rules of " + text, Check.rules(x, text), -1);
        Check.due("fault of " + text, x.fault(), place);
        Check.due("statements of " + text, x.count(10), 0);
        Check.due("the tape after " + text, x.count(11), 0);
    }

    private static void tellsFaults() {
        dueFault("pan", 0);
        dueFault("  ;", 2);
        dueFault("inn pan", 0);
        dueFault("inpan if", 0);
        dueFault("on pan", 0);
        dueFault("in in", 3);
        dueFault("in pan then", 7);
        dueFault("in pan if if", 10);
        dueFault("in pan if draw", 10);
        dueFault("in pan if in > 1 then draw;", 10);
        dueFault("in pan if pan > 1 then draw;", 10);
        dueFault("in pan if 7 > 1 then draw;", 10);
        dueFault("in pan if dayz > 1 then draw;", 10);
        dueFault("in pan if day then draw;", 14);
        dueFault("in pan if day > then draw;", 16);
        dueFault("in pan if day > 1 and then draw;", 22);
        dueFault("in pan if strengths > 1", 10);
        dueFault("in pan if strengt > 1", 10);
        dueFault("in pan if day 1", 14);
        dueFault("in pan if day ; 1", 14);
        dueFault("in pan if day >= 1", 15);
        dueFault("in pan if day > x", 16);
        dueFault("in pan if day > -1", 16);
        dueFault("in pan if day > 1;", 17);
        dueFault("in pan if day > 12345 then", 16);
        dueFault("in pan if day > 00000 then", 16);
        dueFault("in pan if day > 1 2", 18);
        dueFault("in pan if day > 1 then;", 22);
        dueFault("in pan if day > 1 then grade 1;", 23);
        dueFault("in pan if day > 1 then heat;", 27);
        dueFault("in pan if day > 1 then heat 10;", 28);
        dueFault("in pan if day > 1 then heat 00001;", 28);
        dueFault("in pan if day > 1 then draw 1;", 28);
        dueFault("in pan if day > 1 then draw and", 28);
        dueFault("in pan if day > 1 then draw;;", 28);
        dueFault("grade if", 6);
        dueFault("grade 5 if", 6);
        dueFault("grade 10 if", 6);
        dueFault("grade 00004 if", 6);
        dueFault("grade 4 then", 8);
        dueFault("grade 4 if;", 10);
        dueFault("grade 4 if look;", 15);
        dueFault("grade 4 if look >;", 17);
        dueFault("grade 4 if day = 1 then", 19);
        dueFault("grade 4 if day = 1 and;", 22);
        dueFault("grade 4 if day = 1; draw", 20);
    }

    private static void tellsFaultsAtTheEnd() {
        String[] whole = {"in pan if day > 1 and parts = 2 then heat 3;", "grade 1 if look < 2;",
            "in pan if look = 1 then draw;"};
        for (String text : whole) {
            for (int end = 1; end < text.length(); end++) {
                char next = text.charAt(end);
                char last = text.charAt(end - 1);
                boolean cutsAToken = Character.isLetter(last) && Character.isLetter(next);
                if (!cutsAToken) {
                    dueFault(text.substring(0, end), end);
                }
            }
        }
        dueFault("in pan if   \n ", 14);
        dueFault("grade 1 if look < 2; in", 23);
        dueFault("in pan if day > 1 then d", 23);
        dueFault("in pan if day > 1 and day > 2 and day > 3 and", 45);
        dueFault("in pan if day > 1 and day > 2 and day > 3 and  ", 47);
    }

    private static void tellsFaultsOfOddBytes() {
        dueFault("IN pan", 0);
        dueFault("in\tpan", 2);
        dueFault("in Pan", 3);
        dueFault("in pan if day\u00e9", 13);
        dueFault("in\rpan", 2);
        dueFault("in pan if day > 1\u00003", 17);
        dueFault("\u0000 > 1", 0);
        dueFault("in pan if \u0005 > 1", 10);
        dueFault("in pan if day < 1 \u000bthen", 18);
        dueFault("in pan if day < 1 and `day", 22);
        dueFault("in pan if day{", 13);
        dueFault("in pan if day < /", 16);
        dueFault("in pan if day < :", 16);
    }

    private static void limitsStatementsAndTests() {
        StringBuilder text = new StringBuilder();
        for (int i = 0; i < 16; i++) {
            text.append(i % 2 == 0 ? "grade 1 if day=1;" : "in pan if day=2 then draw;");
        }
        dueSound(text.toString(), 16);
        dueSound(text + "  \n", 16);
        dueFault(text + " grade 1 if day=1;", text.length() + 1);
        dueFault(text + "in", text.length());
        dueFault(text + "  ;", text.length() + 2);
        dueSound("grade 1 if day=1 and day=1 and day=1;", 1);
        dueFault("grade 1 if day=1 and day=1 and day=1 and day=1;", 41);
        dueFault("grade 1 if day=1 and day=1 and day=1 and  ;", 42);
        dueFault("grade 1 if day=1;in pan if day=1 and day=1 and day=1 and\nheat=1then draw;", 57);
    }

    private static void keepsRulesAtAFault() {
        MapleLines x = Check.boilingBush(1, "grade 2 if look = 5;");
        Check.due("a fault", Check.rules(x, "grade 1 if look = 5; grade 0 if look = 5; in"), -1);
        Check.due("statements", x.count(10), 3);
        Check.drawBatch(x, 40);
        x.look(0, 0, 5);
        x.look(0, 1, 5);
        Check.due("the rules stay", x.batch(0, 4), 2);
        Check.due("fault()", x.fault(), 44);
        Check.due("other rules", Check.rules(x, "grade 1 if look = 5;"), 1);
        Check.due("fault()", x.fault(), -1);
        Check.due("they hold", x.batch(0, 4), 1);
        Check.due("none", x.rules(0), 0);
        Check.due("none hold", x.batch(0, 4), 4);
    }

    private static void endsTokensWhereTheTextEnds() {
        MapleLines x = new MapleLines();
        Check.feed(x, "inner");
        Check.due("in", x.rules(2), -1);
        Check.due("more must come", x.fault(), 2);
        Check.feed(x, "grade 1 if look = 12345;");
        Check.due("a number cut", x.rules(22), -1);
        Check.due("more must come", x.fault(), 22);
        Check.feed(x, "grade 1 if look");
        Check.due("a word cut", x.rules(4), -1);
        Check.due("grad", x.fault(), 0);
    }

    private static void refusesOddLengths() {
        MapleLines x = new MapleLines();
        Check.due("a fault", Check.rules(x, "grade 7"), -1);
        Check.feed(x, "grade 1 if look = 5;");
        Check.due("rules(-1)", x.rules(-1), -2);
        Check.due("rules(21)", x.rules(21), -2);
        Check.due("rules(the least int)", x.rules(Integer.MIN_VALUE), -2);
        Check.due("the fault stays", x.fault(), 6);
        Check.due("the tape stays", x.count(11), 20);
        Check.due("rules(20)", x.rules(20), 1);
        Check.due("no fault", x.fault(), -1);
        Check.due("rules(1) of an empty tape", x.rules(1), -2);
        Check.due("no fault still", x.fault(), -1);
        Check.feed(x, "grade 1 if look = 5; and more");
        Check.due("the first 20 of 40", x.rules(20), 1);
        Check.due("the tape is empty", x.count(11), 0);
    }
}
