import java.util.Random;

/** Runs of 512 random calls, from fixed seeds, held call by call against NaiveLines. */
public final class RandomRunsTest {
    private static final int RUNS = 400;
    private static final int CALLS = 512;
    private static final String[] RULES = {
        "in pan if parts = 1 then draw; in pan if parts > 1 then heat 9;",
        "in pan if strength > 659 and strength < 900 then draw; in pan if minutes = 0 then heat 9;"
            + "in pan if parts < 60 then heat 1;",
        "in pan if strength > 670 then draw;in pan if strength > 400 then heat 1;"
            + "in pan if parts > 0 then heat 6;",
        "grade 0 if look > 80; grade 1 if look > 50 and strength < 700; grade 2 if day > 3;",
        "grade 3 if parts < 2 and look < 40; grade 1 if look > 20; grade 0 if heat < 99;"};
    private static final String[] TOKENS = {"in", "pan", "if", "and", "then", "draw", "grade",
        "strength", "parts", "heat", "minutes", "look", "day", "<", ">", "=", ";", "0", "4", "5",
        "9", "10", "9999", "00000", "x", "A", "\n", "\u00ff", "\u0000", "<=", "inn"};

    private final Random random;
    private final MapleLines x = new MapleLines();
    private final NaiveLines y = new NaiveLines();
    private final StringBuilder told = new StringBuilder();
    private int calls = 0;
    private boolean wrong = false;

    private RandomRunsTest(long seed) {
        random = new Random(seed);
    }

    public static void main(String[] args) {
        for (int run = 0; run < RUNS; run++) {
            RandomRunsTest test = new RandomRunsTest(run);
            test.plant(run % 4);
            while (test.calls < CALLS && !test.wrong) {
                test.callAny();
            }
            if (test.wrong) {
                System.out.println("run " + run + ": " + test.told);
            }
        }
        Check.end();
    }

    private void due(String call, int got, int want) {
        calls++;
        told.append(call).append(' ');
        // What an object answers after its 512th call is free.
        if (got != want && !wrong && calls <= CALLS) {
            wrong = true;
            Check.due(call, got, want);
        }
    }

    private void due(String call, boolean got, boolean want) {
        due(call, got ? 1 : 0, want ? 1 : 0);
    }

    /** Mostly from least to most; now and then just outside, or far. */
    private int some(int least, int most) {
        int kind = random.nextInt(60);
        if (kind == 0) {
            return random.nextBoolean() ? least - 1 : most + 1;
        }
        if (kind == 1) {
            return random.nextInt();
        }
        if (kind < 6) {
            return random.nextBoolean() ? least : most;
        }
        return least + random.nextInt(most - least + 1);
    }

    private void plant(int size) {
        for (int i = 0; i < 5 + size * 8; i++) {
            node();
        }
        for (int i = 0; i < 10 + size * 12; i++) {
            tree();
        }
        for (int i = 0; i < 20 + size * 30; i++) {
            tap();
        }
        due("pump", x.pump(80), y.pump(80));
        wood();
        wood();
        feedRules(RULES[random.nextInt(3)] + RULES[3 + random.nextInt(2)]);
    }

    private void node() {
        int to = random.nextInt(3) == 0 ? 0 : some(0, y.count(2) - 1);
        int length = some(1, 100);
        int height = Math.min(500, Math.max(0, y.nodeOf(to, 1)) + some(0, 40));
        int member = some(0, 9);
        due("node(" + to + "," + length + "," + height + "," + member + ")",
                x.node(to, length, height, member), y.node(to, length, height, member));
    }

    private void tree() {
        int node = some(1, Math.max(1, y.count(2) - 1));
        int girth = some(30, 400);
        due("tree(" + node + "," + girth + ")", x.tree(node, girth), y.tree(node, girth));
    }

    private void tap() {
        int tree = some(0, Math.max(0, y.count(3) - 1));
        int angle = some(0, 359);
        due("tap(" + tree + "," + angle + ")", x.tap(tree, angle), y.tap(tree, angle));
    }

    private void wood() {
        int much = some(0, 10000);
        due("wood(" + much + ")", x.wood(much), y.wood(much));
    }

    private void day() {
        day(random.nextInt(4) == 0 ? some(-30, 30) : some(-12, 1));
    }

    private void warmDays() {
        for (int i = random.nextInt(7); i > 0; i--) {
            day(some(0, 3));
        }
        int tree = some(0, Math.max(0, y.count(3) - 1));
        due("treeOf(" + tree + ",6)", x.treeOf(tree, 6), y.treeOf(tree, 6));
    }

    private void day(int low) {
        int high = random.nextInt(4) == 0 ? some(-30, 40) : some(2, 12);
        due("day(" + low + "," + high + ")", x.day(low, high), y.day(low, high));
        int what = some(0, 1);
        due("foretold(" + low + "," + high + "," + what + ")", x.foretold(low, high, what),
                y.foretold(low, high, what));
    }

    private void boil() {
        int much = random.nextBoolean() ? some(33, 200) : some(1, 5000);
        due("let(" + much + ")", x.let(much), y.let(much));
        int n = random.nextBoolean() ? some(0, 12) : some(0, 300);
        due("boil(" + n + ")", x.boil(n), y.boil(n));
        for (int what = 0; what <= 5; what++) {
            due("pan(" + what + ")", x.pan(what), y.pan(what));
        }
    }

    private void look() {
        int batch = some(0, Math.max(0, y.count(9) - 1));
        int which = some(0, 1);
        int value = some(0, 100);
        due("look(" + batch + "," + which + "," + value + ")", x.look(batch, which, value),
                y.look(batch, which, value));
    }

    private void sell() {
        int grade = some(0, 4);
        int coins = random.nextBoolean() ? some(0, 1000) : some(0, 1000000);
        due("sell(" + grade + "," + coins + ")", x.sell(grade, coins), y.sell(grade, coins));
        int member = some(0, 9);
        due("member(" + member + ",1)", x.member(member, 1), y.member(member, 1));
    }

    private String statement() {
        boolean grading = random.nextBoolean();
        StringBuilder text = new StringBuilder();
        text.append(grading ? "grade " + some(0, 4) + " if " : "in pan if ");
        int tests = random.nextInt(20) == 0 ? 4 : 1 + random.nextInt(3);
        for (int i = 0; i < tests; i++) {
            text.append(i == 0 ? "" : " and ").append(TOKENS[7 + random.nextInt(6)])
                    .append(TOKENS[13 + random.nextInt(3)]).append(random.nextInt(60));
        }
        if (!grading) {
            text.append(random.nextBoolean() ? "then draw" : "then heat " + some(0, 9));
        }
        return text.append(";").toString();
    }

    private String statements() {
        StringBuilder text = new StringBuilder();
        int most = random.nextInt(10) == 0 ? 17 : 4;
        for (int i = 0; i < most && text.length() < 500; i++) {
            text.append(most == 17 ? "grade 1 if look>" + i * 9 + ";" : statement());
        }
        return text.toString();
    }

    private void rules() {
        StringBuilder text = new StringBuilder(random.nextBoolean() ? statements()
                : RULES[random.nextInt(RULES.length)] + RULES[random.nextInt(RULES.length)]);
        for (int i = random.nextInt(3); i > 0 && text.length() > 0; i--) {
            int at = random.nextInt(text.length());
            int until = Math.min(text.length(), at + random.nextInt(6));
            String put = random.nextBoolean() ? TOKENS[random.nextInt(TOKENS.length)] : "";
            text.replace(at, until, put);
        }
        feedRules(text.toString());
    }

    private void feedRules(String text) {
        int[] word = new int[5];
        for (int at = 0; at < text.length(); at += 20) {
            for (int i = 0; i < 5; i++) {
                word[i] = Check.word(text, at + 4 * i);
            }
            due("feed", x.feed(word[0], word[1], word[2], word[3], word[4]), y.feed(word));
        }
        int n = random.nextInt(5) == 0 ? some(0, y.count(11)) : text.length();
        due("rules(" + n + ") of " + text, x.rules(n), y.rules(n));
        due("fault()", x.fault(), y.fault());
    }

    private void callAny() {
        int kind = random.nextInt(100);
        if (kind < 11) {
            day();
        } else if (kind < 12) {
            warmDays();
        } else if (kind < 32) {
            boil();
        } else if (kind < 46) {
            look();
        } else if (kind < 54) {
            sell();
        } else if (kind < 57) {
            rules();
        } else if (kind < 64) {
            tap();
        } else if (kind < 66) {
            wood();
        } else if (kind < 68) {
            node();
        } else if (kind < 70) {
            tree();
        } else if (kind < 74) {
            turn();
        } else {
            ask(random.nextInt(5));
        }
    }

    private void turn() {
        int node = some(1, Math.max(1, y.count(2) - 1));
        int much = some(0, 20);
        int reading = some(-1, 100);
        due("leak(" + node + "," + much + ")", x.leak(node, much), y.leak(node, much));
        due("gauge(" + node + "," + reading + ")", x.gauge(node, reading), y.gauge(node, reading));
        if (random.nextInt(3) == 0) {
            due("pump(" + reading + ")", x.pump(reading), y.pump(reading));
        }
        if (random.nextInt(3) == 0) {
            due("dump()", x.dump(), y.dump());
        }
        if (random.nextInt(4) == 0) {
            due("year()", x.year(), y.year());
        }
    }

    private void ask(int kind) {
        int what = some(0, 12);
        if (kind == 0) {
            int node = some(0, y.count(2) - 1);
            due("nodeOf(" + node + "," + what + ")", x.nodeOf(node, what), y.nodeOf(node, what));
        } else if (kind == 1) {
            int tree = some(0, Math.max(0, y.count(3) - 1));
            due("treeOf(" + tree + "," + what + ")", x.treeOf(tree, what), y.treeOf(tree, what));
        } else if (kind == 2) {
            int batch = some(0, Math.max(0, y.count(9) - 1));
            due("batch(" + batch + "," + what + ")", x.batch(batch, what), y.batch(batch, what));
        } else if (kind == 3) {
            int member = some(0, 9);
            due("member(" + member + "," + what % 2 + ")", x.member(member, what % 2),
                    y.member(member, what % 2));
        } else {
            due("count(" + what + ")", x.count(what), y.count(what));
        }
    }
}
