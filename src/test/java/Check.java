/** What the project's tests share: due answers, and objects brought to a state that is wanted. */
final class Check {
    private static final long MOST_MILLISECONDS = 120000;

    private static int wrong = 0;

    static {
        Thread watch = new Thread(Check::endLate);
        watch.setDaemon(true);
        watch.start();
    }

    private Check() {
    }

    /** A call that never ends is a wrong answer, too. */
    private static void endLate() {
        try {
            Thread.sleep(MOST_MILLISECONDS);
        } catch (InterruptedException told) {
            return;
        }
        System.out.println("a call did not end");
        Runtime.getRuntime().halt(1);
    }

    static void due(String call, long got, long want) {
        if (got != want) {
            wrong++;
            System.out.println(call + " answered " + got + ", due is " + want);
        }
    }

    static void due(String call, boolean got, boolean want) {
        due(call, got ? 1 : 0, want ? 1 : 0);
    }

    static void end() {
        if (wrong != 0) {
            System.out.println(wrong + " answers are not as due");
            System.exit(1);
        }
    }

    /** Feeds the text, with blanks up to whole twenties, and answers rules() of its length. */
    static int rules(MapleLines x, String text) {
        feed(x, text);
        return x.rules(text.length());
    }

    static void feed(MapleLines x, String text) {
        for (int at = 0; at < text.length(); at += 20) {
            x.feed(word(text, at), word(text, at + 4), word(text, at + 8), word(text, at + 12),
                    word(text, at + 16));
        }
    }

    /** Four bytes of the text as a number, the highest first, with blanks behind its end. */
    static int word(String text, int at) {
        int word = 0;
        for (int i = at; i < at + 4; i++) {
            word = word << 8 | (i < text.length() ? text.charAt(i) & 255 : ' ');
        }
        return word;
    }

    /** A bush whose only TREE gives 600 on a DAY of full FROST and THAW, all of it MEMBER 0's. */
    static MapleLines bush() {
        MapleLines x = new MapleLines();
        x.node(0, 1, 1, 0);
        x.pump(100);
        x.tree(1, 200);
        x.tap(0, 0);
        x.tap(0, 120);
        x.tap(0, 240);
        return x;
    }

    /** A bush with so many full DAYS behind it, WOOD, and RULES that draw what is 1 part. */
    static MapleLines boilingBush(int days, String moreRules) {
        MapleLines x = bush();
        for (int i = 0; i < days; i++) {
            x.day(-10, 10);
        }
        x.wood(10000);
        rules(x, "in pan if parts = 1 then draw; in pan if parts > 1 then heat 9;" + moreRules);
        return x;
    }

    /** Boils so many parts down to one, of 20 STRENGTH each, and has them drawn. */
    static void drawBatch(MapleLines x, int parts) {
        x.let(parts);
        x.boil(300);
    }
}
