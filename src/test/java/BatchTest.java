/** Promises 18 and 19: look and batch. */
public final class BatchTest {
    public static void main(String[] args) {
        takesLooks();
        tellsOfABatch();
        gradesByTheWorse();
        gradesByTheFirstThatHolds();
        gradesByWhatABatchHas();
        gradesByWhatItHadWhenDrawn();
        gradesByTheRulesOfNow();
        holdsSixty();
        Check.end();
    }

    private static MapleLines withBatch(String rules) {
        MapleLines x = Check.boilingBush(3, rules);
        Check.drawBatch(x, 40);
        return x;
    }

    private static void takesLooks() {
        MapleLines x = withBatch("");
        Check.due("no batch 1", x.look(1, 0, 5), false);
        Check.due("no batch -1", x.look(-1, 0, 5), false);
        Check.due("which 2", x.look(0, 2, 5), false);
        Check.due("which -1", x.look(0, -1, 5), false);
        Check.due("value 101", x.look(0, 0, 101), false);
        Check.due("value -1", x.look(0, 0, -1), false);
        Check.due("nothing was done", x.batch(0, 6), -1);
        Check.due("the second first", x.look(0, 1, 100), true);
        Check.due("it was told", x.look(0, 1, 7), false);
        Check.due("still 100", x.batch(0, 7), 100);
        Check.due("0 is a look", x.look(0, 0, 0), true);
        Check.due("and was told", x.look(0, 0, 1), false);
        x.sell(4, 1);
        Check.due("sold", x.look(0, 0, 1), false);
    }

    private static void dueBatch(String when, MapleLines x, int... due) {
        for (int what = 0; what < due.length; what++) {
            Check.due(when + ": batch(0, " + what + ")", x.batch(0, what), due[what]);
        }
    }

    private static void tellsOfABatch() {
        MapleLines x = Check.boilingBush(3, "grade 2 if look > 50;");
        x.year();
        x.tap(0, 60);
        x.day(-10, 10);
        x.day(-10, 10);
        Check.drawBatch(x, 40);
        dueBatch("drawn", x, 1, 800, 2, 1, -1, 0, -1, -1, -1);
        x.look(0, 0, 60);
        dueBatch("one look", x, 1, 800, 2, 1, -1, 0, 60, -1, -1);
        x.look(0, 1, 70);
        dueBatch("both", x, 1, 800, 2, 1, 2, 0, 60, 70, -1);
        x.sell(2, 5);
        dueBatch("sold", x, 1, 800, 2, 1, 2, 1, 60, 70, -1);
        x.day(-10, 10);
        x.year();
        dueBatch("years on", x, 1, 800, 2, 1, 2, 1, 60, 70, -1);
        Check.due("batch(0, -1)", x.batch(0, -1), -1);
        Check.due("batch(1, 0)", x.batch(1, 0), -1);
        Check.due("batch(-1, 0)", x.batch(-1, 0), -1);
    }

    private static int gradeOf(String rules, int first, int second) {
        MapleLines x = withBatch(rules);
        x.look(0, 0, first);
        x.look(0, 1, second);
        return x.batch(0, 4);
    }

    private static void gradesByTheWorse() {
        String rules = "grade 0 if look > 80; grade 2 if look > 50; grade 3 if look = 50;";
        Check.due("both best", gradeOf(rules, 81, 100), 0);
        Check.due("the first worse", gradeOf(rules, 80, 81), 2);
        Check.due("the second worse", gradeOf(rules, 81, 51), 2);
        Check.due("a third", gradeOf(rules, 50, 100), 3);
        Check.due("else 4", gradeOf(rules, 49, 100), 4);
        Check.due("without any", gradeOf("", 100, 100), 4);
    }

    private static void gradesByTheFirstThatHolds() {
        String rules = "grade 3 if look > 80 and look < 90; grade 1 if look > 50;"
                + "grade 0 if look > 80;";
        Check.due("the first", gradeOf(rules, 85, 85), 3);
        Check.due("the second", gradeOf(rules, 95, 95), 1);
        Check.due("a lower one doesn't win", gradeOf(rules, 100, 51), 1);
    }

    private static void gradesByWhatABatchHas() {
        String[] holding = {"strength = 800", "parts = 1", "day = 3", "look = 9", "look < 10"};
        for (String test : holding) {
            Check.due(test, gradeOf("grade 1 if " + test + ";", 9, 9), 1);
        }
        String[] failing = {"strength > 800", "parts < 1", "day = 2", "look > 9", "heat = 0",
            "heat < 9999", "minutes = 0", "minutes < 9999", "look = 9 and heat < 9999"};
        for (String test : failing) {
            Check.due(test, gradeOf("grade 1 if " + test + ";", 9, 9), 4);
        }
    }

    private static void gradesByWhatItHadWhenDrawn() {
        MapleLines x = withBatch("grade 0 if strength = 800 and parts = 1 and day = 3;");
        x.look(0, 0, 9);
        x.look(0, 1, 9);
        x.day(-10, 10);
        x.let(200);
        x.boil(1);
        Check.due("whatever is in the pan now", x.batch(0, 4), 0);
        String[] now = {"strength = 24", "parts = 164", "day = 4"};
        for (String test : now) {
            Check.rules(x, "grade 0 if " + test + ";");
            x.boil(1);
            Check.due(test, x.batch(0, 4), 4);
        }
    }

    private static void gradesByTheRulesOfNow() {
        MapleLines x = withBatch("grade 1 if look > 5;");
        x.look(0, 0, 9);
        x.look(0, 1, 9);
        x.day(-10, 10);
        Check.due("by the rules then", x.batch(0, 4), 1);
        Check.rules(x, "grade 3 if day = 3;");
        Check.due("by the rules now, and the day of then", x.batch(0, 4), 3);
        Check.rules(x, "");
        Check.due("by none", x.batch(0, 4), 4);
    }

    private static void holdsSixty() {
        MapleLines x = Check.boilingBush(10, "");
        for (int batch = 0; batch < 60; batch++) {
            Check.drawBatch(x, 35);
            Check.due("batches", x.count(9), batch + 1);
        }
        x.let(35);
        Check.due("the 61st isn't drawn", x.boil(20), 20);
        Check.due("it stays", x.pan(0), 1);
        Check.due("batches", x.count(9), 60);
        Check.due("no batch 60", x.batch(60, 0), -1);
        Check.due("batch 59", x.batch(59, 1), 700);
        for (int batch = 0; batch < 60; batch++) {
            x.look(batch, 0, 1);
            x.look(batch, 1, 1);
        }
        Check.due("all are sold at once", x.sell(4, 77), 60);
        Check.due("sold ones count among the 60", x.boil(20), 20);
        Check.due("batches", x.count(9), 60);
    }
}
