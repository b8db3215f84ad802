/** Promises 13 to 17: let, dump, wood, boil and pan. */
public final class PanTest {
    public static void main(String[] args) {
        letsIn();
        letsInAtMostFiveThousand();
        dumps();
        stacksWood();
        refusesOddMinutes();
        boils();
        leavesOnePart();
        needsWood();
        mixesStrengths();
        burns();
        keepsMoreSugarThanAnIntHolds();
        actsByTheFirstThatHolds();
        testsEveryThing();
        draws();
        doesNotDraw();
        drawsFromJust660ToJustBelow900();
        keepsHeatWhenDumped();
        Check.end();
    }

    private static MapleLines withSap(int days) {
        MapleLines x = Check.bush();
        for (int i = 0; i < days; i++) {
            x.day(-10, 10);
        }
        return x;
    }

    private static void duePan(String when, MapleLines x, int... due) {
        for (int what = 0; what < due.length; what++) {
            Check.due(when + ": pan(" + what + ")", x.pan(what), due[what]);
        }
    }

    private static void letsIn() {
        MapleLines x = withSap(1);
        Check.due("let(0)", x.let(0), -1);
        Check.due("let(-1)", x.let(-1), -1);
        Check.due("let(601) of 600", x.let(601), -1);
        Check.due("nothing was done", x.count(5), 600);
        Check.due("let(1)", x.let(1), 1);
        duePan("one part", x, 1, 20, 0, 0, 0, 20);
        Check.due("let(599)", x.let(599), 600);
        duePan("all", x, 600, 20, 0, 0, 0, 12000);
        Check.due("the tank", x.count(5), 0);
        Check.due("let(1) of none", x.let(1), -1);
        Check.due("pan(6)", x.pan(6), -1);
        Check.due("pan(-1)", x.pan(-1), -1);
    }

    private static void letsInAtMostFiveThousand() {
        MapleLines x = withSap(20);
        Check.due("let(5001)", x.let(5001), -1);
        Check.due("let(the greatest int)", x.let(Integer.MAX_VALUE), -1);
        Check.due("let(5000)", x.let(5000), 5000);
        Check.due("let(1) above", x.let(1), -1);
        Check.due("the tank", x.count(5), 7000);
        x.dump();
        Check.due("let(4999)", x.let(4999), 4999);
        Check.due("let(2) above", x.let(2), -1);
        Check.due("let(1)", x.let(1), 5000);
        Check.due("the tank", x.count(5), 2000);
    }

    private static void dumps() {
        MapleLines x = withSap(1);
        Check.due("none", x.dump(), 0);
        x.let(70);
        x.boil(5);
        Check.due("minutes", x.pan(3), 5);
        Check.due("some", x.dump(), 70);
        duePan("empty", x, 0, 0, 0, 0, 0, 0);
        Check.due("the tank stays", x.count(5), 530);
        Check.due("none again", x.dump(), 0);
        x.let(10);
        duePan("filled again", x, 10, 20, 0, 0, 0, 200);
    }

    private static void stacksWood() {
        MapleLines x = new MapleLines();
        Check.due("wood(-1)", x.wood(-1), -1);
        Check.due("wood(10001)", x.wood(10001), -1);
        Check.due("wood(0)", x.wood(0), 0);
        for (int i = 1; i <= 99; i++) {
            Check.due("wood(10000)", x.wood(10000), i * 10000);
        }
        Check.due("wood(9999)", x.wood(9999), 999999);
        Check.due("wood(2) above", x.wood(2), -1);
        Check.due("nothing was done", x.count(8), 999999);
        Check.due("wood(1)", x.wood(1), 1000000);
        Check.due("wood(1) above", x.wood(1), -1);
        Check.due("wood(0) of a full stack", x.wood(0), 1000000);
    }

    private static void refusesOddMinutes() {
        MapleLines x = withSap(1);
        Check.due("boil(-1)", x.boil(-1), -1);
        Check.due("boil(301)", x.boil(301), -1);
        Check.due("boil(300) of an empty pan", x.boil(300), 0);
        x.let(10);
        Check.due("boil(0)", x.boil(0), 0);
        Check.due("boil(300)", x.boil(300), 300);
        duePan("without rules", x, 10, 20, 0, 300, 0, 200);
        Check.due("boil(300) more", x.boil(300), 300);
        Check.due("minutes add up", x.pan(3), 600);
    }

    private static void boils() {
        MapleLines x = withSap(1);
        x.wood(100);
        Check.rules(x, "in pan if minutes = 1 then heat 9;");
        x.let(100);
        Check.due("boil(1)", x.boil(1), 1);
        duePan("no heat yet", x, 100, 20, 0, 1, 0, 2000);
        Check.due("boil(1)", x.boil(1), 1);
        duePan("heat 9", x, 64, 31, 9, 2, 0, 2000);
        Check.due("wood", x.count(8), 91);
        Check.due("boil(1)", x.boil(1), 1);
        duePan("heat stays", x, 28, 71, 9, 3, 0, 2000);
        Check.due("wood", x.count(8), 82);
    }

    private static void leavesOnePart() {
        MapleLines x = withSap(1);
        x.wood(100);
        Check.rules(x, "in pan if parts > 0 then heat 5;");
        x.let(21);
        x.boil(1);
        duePan("just one", x, 1, 420, 5, 1, 0, 420);
        x.boil(1);
        duePan("still one", x, 1, 420, 5, 2, 0, 420);
        Check.due("wood is burnt all the same", x.count(8), 90);
        x.dump();
        x.let(20);
        x.boil(1);
        duePan("not less than one", x, 1, 400, 5, 1, 0, 400);
    }

    private static void needsWood() {
        MapleLines x = withSap(1);
        x.wood(9);
        Check.rules(x, "in pan if minutes = 0 then heat 4;");
        x.let(100);
        x.boil(3);
        duePan("two minutes' wood", x, 68, 29, 4, 3, 0, 2000);
        Check.due("wood", x.count(8), 1);
        x.wood(3);
        x.boil(1);
        duePan("enough again", x, 52, 38, 4, 4, 0, 2000);
        Check.due("wood", x.count(8), 0);
        Check.due("minutes go by all the same", x.boil(7), 7);
        duePan("without any", x, 52, 38, 4, 11, 0, 2000);
    }

    private static void mixesStrengths() {
        MapleLines x = withSap(1);
        x.wood(100);
        Check.rules(x, "in pan if minutes = 0 then heat 9; in pan if minutes > 0 then heat 0;");
        x.let(40);
        x.boil(1);
        duePan("boiled down", x, 4, 200, 9, 1, 0, 800);
        Check.due("let(7)", x.let(7), 11);
        duePan("thinned, cut", x, 11, 85, 9, 1, 0, 940);
    }

    private static void burns() {
        MapleLines x = withSap(1);
        x.wood(1000);
        Check.rules(x, "in pan if strength > 659 then draw; in pan if parts > 1 then heat 9;");
        x.let(37);
        x.boil(2);
        Check.due("740 is drawn", x.count(9), 1);
        Check.rules(x, "in pan if parts > 1 then heat 9; in pan if parts = 1 then draw;");
        x.let(45);
        x.boil(2);
        duePan("900 is burnt", x, 1, 900, 9, 2, 1, 900);
        Check.due("and never drawn", x.boil(100), 100);
        Check.due("batches", x.count(9), 1);
        x.dump();
        Check.due("empty isn't burnt", x.pan(4), 0);
        x.let(44);
        x.boil(2);
        duePan("880 isn't burnt", x, 1, 880, 9, 2, 0, 880);
        x.boil(1);
        Check.due("it is drawn", x.count(9), 2);
        x.let(45);
        x.boil(2);
        x.let(10);
        Check.due("thinned it isn't at 900 any more", x.pan(4), 0);
    }

    private static void keepsMoreSugarThanAnIntHolds() {
        MapleLines x = new MapleLines();
        x.node(0, 1, 1, 0);
        x.pump(100);
        for (int tree = 0; tree < 34; tree++) {
            x.tree(1, 400);
            x.tap(tree, 0);
            x.tap(tree, 120);
            x.tap(tree, 240);
        }
        for (int i = 0; i < 10; i++) {
            x.wood(10000);
        }
        Check.rules(x, "in pan if parts > 0 then heat 9;");
        int let = 0;
        for (int i = 0; i < 10; i++) {
            x.day(-10, 10);
            for (int j = 0; j < 4; j++) {
                int much = 5000 - x.pan(0);
                x.let(much);
                let += much;
                x.boil(150);
            }
        }
        Check.due("let in", let, 40 * 5000 - 39);
        Check.due("parts", x.pan(0), 1);
        Check.due("sugar", x.pan(5), let * 20);
        Check.due("strength", x.pan(1), let * 20);
    }

    private static void actsByTheFirstThatHolds() {
        MapleLines x = withSap(1);
        x.wood(1000);
        Check.rules(x, "grade 1 if parts > 0; in pan if parts > 100 and parts < 150 then heat 1;"
                + "in pan if parts > 50 then heat 2; in pan if parts > 0 then heat 3;");
        x.let(150);
        x.boil(1);
        Check.due("the second", x.pan(2), 2);
        x.boil(1);
        Check.due("the first, both tests of which hold", x.pan(2), 1);
        x.dump();
        x.let(50);
        x.boil(1);
        Check.due("the third", x.pan(2), 3);
    }

    private static void dueHeat(String test, boolean holds) {
        MapleLines x = withSap(3);
        Check.rules(x, "in pan if minutes = 0 then heat 3;");
        x.wood(30);
        x.let(100);
        x.boil(2);
        Check.rules(x, "in pan if " + test + " then heat 7;");
        x.boil(1);
        Check.due(test, x.pan(2), holds ? 7 : 3);
    }

    private static void testsEveryThing() {
        String[] things = {"strength", "parts", "heat", "minutes", "day"};
        int[] values = {26, 76, 3, 2, 3};
        for (int i = 0; i < things.length; i++) {
            for (int by = -1; by <= 1; by++) {
                int number = values[i] + by;
                dueHeat(things[i] + " < " + number, values[i] < number);
                dueHeat(things[i] + " = " + number, values[i] == number);
                dueHeat(things[i] + " > " + number, values[i] > number);
            }
        }
        dueHeat("look < 9999", false);
        dueHeat("look = 0", false);
        dueHeat("look > 0", false);
        dueHeat("day = 3 and parts = 76 and heat = 3", true);
        dueHeat("day = 2 and parts = 76 and heat = 3", false);
        dueHeat("day = 3 and parts = 75 and heat = 3", false);
        dueHeat("day = 3 and parts = 76 and heat = 2", false);
        dueHeat("day = 3 and look < 101", false);
    }

    private static void draws() {
        MapleLines x = withSap(2);
        x.wood(100);
        Check.rules(x, "in pan if parts = 1 then draw; in pan if parts > 1 then heat 8;");
        x.let(33);
        Check.due("boiled and drawn", x.boil(10), 2);
        duePan("empty", x, 0, 0, 0, 0, 0, 0);
        Check.due("nothing boils where it is drawn", x.count(8), 92);
        Check.due("parts", x.batch(0, 0), 1);
        Check.due("strength", x.batch(0, 1), 660);
        Check.due("day", x.batch(0, 2), 2);
        x.let(33);
        Check.due("boil(1)", x.boil(1), 1);
        Check.due("minutes begin again", x.pan(3), 1);
    }

    private static void doesNotDraw() {
        MapleLines x = withSap(1);
        x.wood(100);
        Check.rules(x, "in pan if parts = 1 then draw; in pan if minutes = 0 then heat 8;"
                + "in pan if parts < 9 then heat 0;");
        x.let(32);
        Check.due("boil(5)", x.boil(5), 5);
        duePan("640 isn't drawn, nor does a later statement act", x, 1, 640, 8, 5, 0, 640);
        Check.due("it boils on", x.count(8), 60);
        Check.due("batches", x.count(9), 0);
    }

    private static void drawsFromJust660ToJustBelow900() {
        String down = "in pan if parts = 80 then draw; in pan if parts = 84 then heat 1;"
                + "in pan if parts = 104 then heat 6; in pan if parts = 108 then heat 7;"
                + "in pan if parts > 115 then heat 9;";
        int[] letIn = {2636, 2640, 3596, 3600};
        int[] strengths = {659, 660, 899, 900};
        for (int i = 0; i < letIn.length; i++) {
            MapleLines x = withSap(7);
            x.wood(10000);
            Check.rules(x, down);
            x.let(letIn[i]);
            for (int minute = 0; minute < 200 && x.pan(0) > 80; minute++) {
                x.boil(1);
            }
            Check.due("strength", x.pan(1), strengths[i]);
            Check.due("burnt at " + strengths[i], x.pan(4), strengths[i] == 900 ? 1 : 0);
            x.boil(1);
            boolean drawn = strengths[i] == 660 || strengths[i] == 899;
            Check.due("drawn at " + strengths[i], x.count(9), drawn ? 1 : 0);
            Check.due("its parts", x.batch(0, 0), drawn ? 80 : -1);
        }
    }

    private static void keepsHeatWhenDumped() {
        MapleLines x = withSap(1);
        x.wood(100);
        Check.rules(x, "in pan if parts = 90 then heat 5;");
        x.let(90);
        x.boil(1);
        x.dump();
        Check.due("heat", x.pan(2), 5);
        x.let(50);
        x.boil(1);
        Check.due("boils on", x.pan(0), 30);
        x.year();
        Check.due("heat in the next year", x.pan(2), 5);
    }
}
