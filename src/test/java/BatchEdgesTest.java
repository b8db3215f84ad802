/** The boundary cases of promises 18 and 19: LOOKS, GRADES, and what is told of a BATCH. */
public final class BatchEdgesTest {
    private static final Edges.State LIVELY = Edges::lively;

    public static void main(String[] args) {
        isLookedAtIfItIsThere();
        isLookedAtTwice();
        looksLike0To100();
        isLookedAtOnceByEach();
        isNotLookedAtWhenSold();
        hasAGradeWithBothLooks();
        hasTheGreaterGradeOfBoth();
        hasAGradeOf0To4();
        holdsNothingOfHeatAndMinutes();
        isAskedForByANumberThatIsThere();
        isAskedForWhat0To7();
        isOneOf60();
        Check.end();
    }

    private static Edges.State drawn(String rules) {
        return () -> {
            MapleLines x = Check.boilingBush(1, rules);
            Check.drawBatch(x, 40);
            return x;
        };
    }

    private static void isLookedAtIfItIsThere() {
        Edges.State two = Edges.after(drawn(""), x -> {
            Check.drawBatch(x, 40);
            return 0;
        });
        Edges.within("BATCH", two, (x, batch) -> Edges.truth(x.look(batch, 0, 5)), 0, 1, 0);
        Edges.refusesAll("BATCH", LIVELY, (x, batch) -> Edges.truth(x.look(batch, 0, 5)), 0,
                Integer.MIN_VALUE, -1, 3, 60, Integer.MAX_VALUE);
        Edges.refusesAll("BATCH of none", MapleLines::new,
                (x, batch) -> Edges.truth(x.look(batch, 0, 5)), 0, -1, 0, 1);
    }

    private static void isLookedAtTwice() {
        Edges.within("which LOOK", drawn(""), (x, which) -> Edges.truth(x.look(0, which, 5)), 0, 1,
                0);
        Edges.refusesAll("which LOOK", LIVELY, (x, which) -> Edges.truth(x.look(2, which, 5)), 0,
                Integer.MIN_VALUE, -1, 2, Integer.MAX_VALUE);
    }

    private static void looksLike0To100() {
        for (int which = 0; which <= 1; which++) {
            int told = which;
            Edges.within("LOOK " + which, drawn(""),
                    (x, value) -> Edges.truth(x.look(0, told, value)), 0, 100, 0);
            for (int value : new int[] {0, 1, 99, 100}) {
                Edges.State looked = Edges.after(drawn(""),
                        x -> Edges.truth(x.look(0, told, value)));
                Edges.takes("LOOK " + which + " is " + value, looked, x -> x.batch(0, 6 + told),
                        value);
                Edges.takes("the other isn't told", looked, x -> x.batch(0, 7 - told), -1);
            }
        }
        Edges.refusesAll("LOOK", LIVELY, (x, value) -> Edges.truth(x.look(2, 1, value)), 0,
                Integer.MIN_VALUE, -1, 101, Integer.MAX_VALUE);
    }

    private static void isLookedAtOnceByEach() {
        for (int first : new int[] {0, 50, 100}) {
            for (int which = 0; which <= 1; which++) {
                int told = which;
                Edges.State looked = Edges.after(drawn(""),
                        x -> Edges.truth(x.look(0, told, first)));
                Edges.refusesAll("told " + first + ", then", looked,
                        (x, value) -> Edges.truth(x.look(0, told, value)), 0, 0, 50, 100);
                Edges.takes("the other", looked, x -> Edges.truth(x.look(0, 1 - told, first)), 1);
            }
        }
        Edges.refuses("told, of two", LIVELY, x -> Edges.truth(x.look(1, 0, 3)), 0);
        Edges.refuses("told, of one", LIVELY, x -> Edges.truth(x.look(2, 0, 3)), 0);
    }

    private static void isNotLookedAtWhenSold() {
        Edges.refuses("sold, the first", LIVELY, x -> Edges.truth(x.look(0, 0, 3)), 0);
        Edges.refuses("sold, the second", LIVELY, x -> Edges.truth(x.look(0, 1, 3)), 0);
    }

    private static MapleLines looked(String rules, int first, int second) {
        MapleLines x = drawn(rules).make();
        x.look(0, 0, first);
        x.look(0, 1, second);
        return x;
    }

    private static int gradeOf(String rules, int first, int second) {
        return looked(rules, first, second).batch(0, 4);
    }

    private static void hasAGradeWithBothLooks() {
        String rules = "grade 1 if look < 101;";
        Edges.takes("no LOOK", drawn(rules), x -> x.batch(0, 4), -1);
        for (int which = 0; which <= 1; which++) {
            int told = which;
            Edges.State one = Edges.after(drawn(rules), x -> Edges.truth(x.look(0, told, 0)));
            Edges.takes("one LOOK", one, x -> x.batch(0, 4), -1);
            Edges.State both = Edges.after(one, x -> Edges.truth(x.look(0, 1 - told, 0)));
            Edges.takes("both LOOKS", both, x -> x.batch(0, 4), 1);
        }
        Edges.State refused = Edges.after(drawn(rules), x -> Edges.truth(x.look(0, 0, 101)));
        Edges.takes("a LOOK refused", refused, x -> x.batch(0, 4), -1);
    }

    private static void hasTheGreaterGradeOfBoth() {
        String rules = "grade 0 if look > 99; grade 3 if look > 50; grade 1 if look > 0;";
        int[][] due = {{100, 100, 0}, {100, 99, 3}, {99, 100, 3}, {51, 51, 3}, {50, 100, 1},
            {50, 51, 3}, {1, 1, 1}, {1, 0, 4}, {0, 1, 4}, {0, 0, 4}, {100, 0, 4}};
        for (int[] row : due) {
            Check.due("LOOKS " + row[0] + ", " + row[1], gradeOf(rules, row[0], row[1]), row[2]);
        }
    }

    private static void hasAGradeOf0To4() {
        for (int grade = 0; grade <= 4; grade++) {
            Check.due("grade " + grade, gradeOf("grade " + grade + " if look = 7;", 7, 7), grade);
            Check.due("else 4", gradeOf("grade " + grade + " if look = 7;", 6, 6), 4);
        }
        Check.due("else 4, without any", gradeOf("", 0, 0), 4);
    }

    private static void holdsNothingOfHeatAndMinutes() {
        String[] never = {"heat = 0", "heat < 9999", "heat > 0", "minutes = 0", "minutes < 9999",
            "minutes > 0"};
        for (String test : never) {
            Check.due(test, gradeOf("grade 0 if " + test + ";", 7, 7), 4);
            Check.due(test + " and more", gradeOf("grade 0 if look = 7 and " + test + ";", 7, 7),
                    4);
        }
        String[] edges = {"strength > 799", "strength = 800", "strength < 801", "parts > 0",
            "parts = 1", "parts < 2", "day > 0", "day = 1", "day < 2", "look > 6", "look = 7",
            "look < 8"};
        for (String test : edges) {
            Check.due(test, gradeOf("grade 0 if " + test + ";", 7, 7), 0);
        }
        String[] beyond = {"strength > 800", "strength < 800", "strength = 801", "parts > 1",
            "parts < 1", "parts = 0", "day > 1", "day < 1", "day = 0", "look > 7", "look < 7",
            "look = 8"};
        for (String test : beyond) {
            Check.due(test, gradeOf("grade 0 if " + test + ";", 7, 7), 4);
        }
    }

    private static void isAskedForByANumberThatIsThere() {
        for (int what : new int[] {0, 1, 2, 3, 5, 6}) {
            Edges.within("what " + what + " of BATCH", LIVELY, (x, batch) -> x.batch(batch, what),
                    0, 2, -1);
        }
        for (int what : new int[] {4, 7}) {
            Edges.refusesAll("what " + what + " of BATCH", LIVELY,
                    (x, batch) -> x.batch(batch, what), -1, Integer.MIN_VALUE, -1, 2, 3, 60,
                    Integer.MAX_VALUE);
        }
        Edges.refusesAll("BATCH of none", MapleLines::new, (x, batch) -> x.batch(batch, 0), -1, -1,
                0, 1);
    }

    private static void isAskedForWhat0To7() {
        Edges.within("what", LIVELY, (x, what) -> x.batch(0, what), 0, 7, -1);
        int[][] due = {{1, 800, 2, 0, 2, 1, 90, 50}, {1, 800, 2, 0, 0, 0, 89, 85},
            {1, 800, 2, 0, -1, 0, 88, -1}};
        for (int batch = 0; batch < due.length; batch++) {
            for (int what = 0; what < due[batch].length; what++) {
                Check.due("batch(" + batch + ", " + what + ")", Edges.lively().batch(batch, what),
                        due[batch][what]);
            }
        }
    }

    private static MapleLines batches(int many) {
        MapleLines x = Check.boilingBush(10, "");
        for (int batch = 0; batch < many; batch++) {
            Check.drawBatch(x, 35);
        }
        return x;
    }

    private static void isOneOf60() {
        Edges.within("BATCH of 60", () -> batches(60),
                (x, batch) -> Edges.truth(x.look(batch, 1, 100)), 0, 59, 0);
        Edges.within("BATCH of 60", () -> batches(60), (x, batch) -> x.batch(batch, 1), 0, 59, -1);
        Edges.within("BATCH of 59", () -> batches(59), (x, batch) -> x.batch(batch, 1), 0, 58, -1);
    }
}
