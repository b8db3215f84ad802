/** The boundary cases of promises 13 to 17: sap let in, WOOD, MINUTES, and what the PAN tells. */
public final class PanEdgesTest {
    private static final Edges.State LIVELY = Edges::lively;
    private static final Edges.State NEW = MapleLines::new;

    public static void main(String[] args) {
        isLetIn1To5000();
        isLetInWhatTheTankHas();
        isLetInUpTo5000();
        isRefusedForMoreThanOneReason();
        isDumpedWhetherEmptyOrFull();
        isGivenWoodOf0To10000();
        isGivenWoodUpToAMillion();
        boils0To300Minutes();
        boilsAsLongAsSomethingIsInIt();
        boilsOffFourPartsForEachHeat();
        keepsOnePart();
        burnsWoodThatIsThere();
        cutsStrength();
        countsMinutesSinceItWasEmpty();
        isDrawnFrom660ToBelow900();
        isDrawnOfOnePartAndOfMany();
        isDrawnUnlessSixtyAreThere();
        actsByTheFirstThatHolds();
        testsWhatIsAtItsMost();
        testsAgainst9999();
        isDrawnOnTheLastDay();
        isAskedForWhat0To5();
        tellsNothingWhenEmpty();
        Check.end();
    }

    /** A bush whose TANK has so many parts. */
    private static MapleLines tank(int parts) {
        MapleLines x = Check.bush();
        for (int sap = 0; sap < parts; sap += 600) {
            x.day(-10, 10);
        }
        x.let(x.count(5) - parts);
        x.dump();
        return x;
    }

    /** A bush whose PAN has so many parts and whose TANK has more. */
    private static MapleLines pan(int parts) {
        MapleLines x = tank(10000);
        x.let(parts);
        return x;
    }

    private static MapleLines pan(int parts, int wood, String rules) {
        MapleLines x = pan(parts);
        x.wood(wood);
        Check.rules(x, rules);
        return x;
    }

    private static void duePan(String when, Edges.State state, int... due) {
        MapleLines x = state.make();
        for (int what = 0; what < due.length; what++) {
            Check.due(when + ": pan(" + what + ")", x.pan(what), due[what]);
        }
    }

    private static void isLetIn1To5000() {
        Edges.within("let", () -> tank(6000), MapleLines::let, 1, 5000, -1);
        duePan("let(1)", Edges.after(() -> tank(6000), x -> x.let(1)), 1, 20, 0, 0, 0, 20);
        duePan("let(5000)", Edges.after(() -> tank(6000), x -> x.let(5000)), 5000, 20, 0, 0, 0,
                100000);
    }

    private static void isLetInWhatTheTankHas() {
        Edges.fills("let all of 300", () -> tank(300), x -> x.let(300), 300, -1);
        Edges.refuses("let 301 of 300", () -> tank(300), x -> x.let(301), -1);
        Edges.takes("let 299 of 300", () -> tank(300), x -> x.let(299), 299);
        Edges.refusesAll("let of an empty TANK", () -> tank(0), MapleLines::let, -1, 0, 1, 5000);
        Edges.refuses("let of a new one's TANK", NEW, x -> x.let(1), -1);
        Edges.takes("the TANK has less then", Edges.after(() -> tank(300), x -> x.let(299)),
                x -> x.count(5), 1);
    }

    private static void isLetInUpTo5000() {
        Edges.fills("let into 4999", () -> pan(4999), x -> x.let(1), 5000, -1);
        Edges.refuses("let 2 into 4999", () -> pan(4999), x -> x.let(2), -1);
        Edges.takes("let 4999 into 1", () -> pan(1), x -> x.let(4999), 5000);
        Edges.refuses("let 5000 into 1", () -> pan(1), x -> x.let(5000), -1);
    }

    private static void isRefusedForMoreThanOneReason() {
        Edges.refuses("too much for the TANK and the PAN", LIVELY, x -> x.let(5000), -1);
        Edges.refuses("no number, an empty TANK", NEW, x -> x.let(5001), -1);
        Edges.refuses("too much for the PAN alone", () -> pan(5000), x -> x.let(1), -1);
    }

    private static void isDumpedWhetherEmptyOrFull() {
        Edges.refuses("an empty PAN is dumped", NEW, MapleLines::dump, 0);
        Edges.refuses("an empty PAN is dumped, sap in the TANK", () -> tank(60), MapleLines::dump,
                0);
        Edges.takes("one part", () -> pan(1), MapleLines::dump, 1);
        Edges.takes("a full PAN", () -> pan(5000), MapleLines::dump, 5000);
        Edges.State dumped = Edges.after(() -> pan(5000), MapleLines::dump);
        duePan("dumped", dumped, 0, 0, 0, 0, 0, 0);
        Edges.takes("the TANK isn't", dumped, x -> x.count(5), 5000);
        Edges.takes("room for 5000 again", dumped, x -> x.let(5000), 5000);
        Edges.refuses("dumped again", dumped, MapleLines::dump, 0);
    }

    private static void isGivenWoodOf0To10000() {
        Edges.within("WOOD", LIVELY, MapleLines::wood, 0, 10000, -1);
        Edges.refuses("WOOD of none changes nothing", LIVELY, x -> x.wood(0),
                Edges.lively().count(8));
        Edges.takes("WOOD at first", NEW, x -> x.wood(0), 0);
        Edges.takes("WOOD at most", NEW, x -> x.wood(10000), 10000);
    }

    private static MapleLines wood(int much) {
        MapleLines x = new MapleLines();
        for (int more = much; more > 0; more -= 10000) {
            x.wood(Math.min(10000, more));
        }
        return x;
    }

    private static void isGivenWoodUpToAMillion() {
        Edges.fills("WOOD 1,000,000", () -> wood(990000), x -> x.wood(10000), 1000000, -1);
        Edges.fills("WOOD 1,000,000 by 1", () -> wood(999999), x -> x.wood(1), 1000000, -1);
        Edges.refuses("WOOD 1,000,001", () -> wood(999999), x -> x.wood(2), -1);
        Edges.refuses("WOOD far above", () -> wood(999999), x -> x.wood(10000), -1);
        Edges.takes("none more of 1,000,000", () -> wood(1000000), x -> x.wood(0), 1000000);
    }

    private static void boils0To300Minutes() {
        Edges.within("boil", () -> pan(9), MapleLines::boil, 0, 300, -1);
        Edges.within("boil of an empty PAN", NEW, MapleLines::boil, 0, 300, -1);
        Edges.within("boil and draw", LIVELY, MapleLines::boil, 0, 300, -1);
        Edges.takes("300 did", () -> pan(9), x -> x.boil(300), 300);
        Edges.takes("1 did", () -> pan(9), x -> x.boil(1), 1);
        Edges.refuses("0 did", LIVELY, x -> x.boil(0), 0);
    }

    private static void boilsAsLongAsSomethingIsInIt() {
        Edges.refuses("an empty PAN", NEW, x -> x.boil(300), 0);
        Edges.State toDraw = () -> pan(40, 100,
                "in pan if parts=1 then draw;in pan if parts>1 then heat 9;");
        for (int n = 0; n <= 5; n++) {
            int minutes = n;
            Edges.takes("boil(" + n + ")", toDraw, x -> x.boil(minutes), Math.min(n, 3));
        }
        Edges.takes("drawn in the third", Edges.after(toDraw, x -> x.boil(2)), x -> x.count(9), 0);
        Edges.takes("drawn in the third", Edges.after(toDraw, x -> x.boil(3)), x -> x.count(9), 1);
        Edges.refuses("drawn, nothing is in it", Edges.after(toDraw, x -> x.boil(3)),
                x -> x.boil(300), 0);
    }

    private static Edges.State heated(int parts, int wood, int heat) {
        return Edges.after(() -> pan(parts, wood, "in pan if parts > 0 then heat " + heat + ";"),
                x -> x.boil(1));
    }

    private static void boilsOffFourPartsForEachHeat() {
        for (int heat = 0; heat <= 9; heat++) {
            duePan("HEAT " + heat, heated(100, 50, heat), 100 - 4 * heat, 2000 / (100 - 4 * heat),
                    heat, 1, 0, 2000);
            Edges.takes("WOOD at HEAT " + heat, heated(100, 50, heat), x -> x.count(8), 50 - heat);
        }
    }

    private static void keepsOnePart() {
        for (int heat : new int[] {1, 9}) {
            int off = 4 * heat;
            duePan("one more than goes off and is left", heated(off + 2, 50, heat), 2);
            duePan("one is left", heated(off + 1, 50, heat), 1);
            duePan("one would be too much", heated(off, 50, heat), 1);
            duePan("two would be too much", heated(off - 1, 50, heat), 1);
            duePan("one alone", heated(1, 50, heat), 1, 20, heat, 1, 0, 20);
            Edges.takes("WOOD is burnt for one alone", heated(1, 50, heat), x -> x.count(8),
                    50 - heat);
        }
    }

    private static void burnsWoodThatIsThere() {
        for (int heat = 1; heat <= 9; heat++) {
            duePan("as much WOOD as HEAT", heated(100, heat, heat), 100 - 4 * heat);
            Edges.takes("all is burnt", heated(100, heat, heat), x -> x.count(8), 0);
            duePan("WOOD less than HEAT", heated(100, heat - 1, heat), 100, 20, heat, 1);
            Edges.takes("none is burnt", heated(100, heat - 1, heat), x -> x.count(8), heat - 1);
        }
        duePan("HEAT 0 without WOOD", heated(100, 0, 0), 100, 20, 0, 1);
    }

    private static void cutsStrength() {
        duePan("2000 by 96", heated(100, 9, 1), 96, 20, 1, 1, 0, 2000);
        duePan("2000 by 64", heated(100, 9, 9), 64, 31, 9, 1, 0, 2000);
        Edges.State thinned = Edges.after(heated(40, 9, 9), x -> x.let(3));
        duePan("800 and 60, by 4 and 3", thinned, 7, 122, 9, 1, 0, 860);
    }

    private static void countsMinutesSinceItWasEmpty() {
        Edges.State boiled = Edges.after(() -> pan(9), x -> x.boil(300));
        Edges.takes("300", boiled, x -> x.pan(3), 300);
        Edges.State more = Edges.after(boiled, x -> x.boil(300));
        Edges.takes("600", more, x -> x.pan(3), 600);
        Edges.takes("sap let in", Edges.after(more, x -> x.let(1)), x -> x.pan(3), 600);
        Edges.State dumped = Edges.after(more, MapleLines::dump);
        Edges.takes("dumped", dumped, x -> x.pan(3), 0);
        Edges.State again = Edges.after(dumped, x -> x.let(1));
        Edges.takes("let in again", again, x -> x.pan(3), 0);
        Edges.takes("a MINUTE on", Edges.after(again, x -> x.boil(1)), x -> x.pan(3), 1);
        Edges.State byMinutes = () -> pan(9, 9, "in pan if minutes = 1 then heat 1;");
        duePan("none before it", Edges.after(byMinutes, x -> x.boil(1)), 9, 20, 0, 1);
        duePan("one before it", Edges.after(byMinutes, x -> x.boil(2)), 5, 36, 1, 2);
    }

    /** A PAN of 80 parts that has this STRENGTH: letIn times 20 by 80, cut. */
    private static MapleLines eighty(int letIn) {
        MapleLines x = pan(letIn, 10000, "in pan if parts = 84 then heat 1;"
                + "in pan if parts = 104 then heat 6; in pan if parts = 108 then heat 7;"
                + "in pan if parts = 112 then heat 8; in pan if parts > 115 then heat 9;");
        for (int minute = 0; minute < 200 && x.pan(0) > 80; minute++) {
            x.boil(1);
        }
        Check.rules(x, "in pan if parts > 0 then draw;");
        return x;
    }

    private static void isDrawnFrom660ToBelow900() {
        int[] letIn = {2636, 2640, 3596, 3600, 3604};
        int[] strengths = {659, 660, 899, 900, 901};
        int[] heats = {9, 1, 6, 7, 8};
        for (int i = 0; i < letIn.length; i++) {
            int sap = letIn[i];
            Edges.State ready = () -> eighty(sap);
            boolean drawn = i == 1 || i == 2;
            String name = "STRENGTH " + strengths[i];
            Edges.takes(name, ready, x -> x.pan(1), strengths[i]);
            Edges.takes(name + " is BURNT", ready, x -> x.pan(4), i < 3 ? 0 : 1);
            Edges.State minute = Edges.after(ready, x -> x.boil(1));
            Edges.takes(name + " is drawn", minute, x -> x.count(9), drawn ? 1 : 0);
            Edges.takes(name + ", parts", minute, x -> x.batch(0, 0), drawn ? 80 : -1);
            Edges.takes(name + ", the BATCH", minute, x -> x.batch(0, 1),
                    drawn ? strengths[i] : -1);
            Edges.takes(name + ", the PAN", minute, x -> x.pan(0), drawn ? 0 : 80 - 4 * heats[i]);
            Edges.takes(name + ", its HEAT", minute, x -> x.pan(2), drawn ? 0 : heats[i]);
        }
    }

    private static void isDrawnOfOnePartAndOfMany() {
        String rules = "in pan if strength > 659 then draw; in pan if parts > 0 then heat 9;";
        Edges.State one = Edges.after(() -> pan(33, 10000, rules), x -> x.boil(300));
        Edges.takes("one part", one, x -> x.batch(0, 0), 1);
        Edges.takes("of 660", one, x -> x.batch(0, 1), 660);
        Edges.State many = Edges.after(() -> pan(5000, 10000, rules), x -> x.boil(300));
        Edges.takes("of 5000 parts", many, x -> x.batch(0, 0), 140);
        Edges.takes("100,000 by 140", many, x -> x.batch(0, 1), 714);
    }

    private static MapleLines batches(int many) {
        MapleLines x = Check.boilingBush(10, "");
        for (int batch = 0; batch < many; batch++) {
            Check.drawBatch(x, 35);
        }
        x.let(35);
        return x;
    }

    private static void isDrawnUnlessSixtyAreThere() {
        Edges.takes("BATCH 60", () -> batches(59), x -> x.boil(300), 2);
        Edges.takes("BATCH 61", () -> batches(60), x -> x.boil(300), 300);
        Edges.State full = Edges.after(() -> batches(60), x -> x.boil(4));
        Edges.takes("60 are told", full, x -> x.count(9), 60);
        Edges.takes("it goes on in the PAN", full, x -> x.pan(0), 1);
        Edges.takes("it goes on burning WOOD", full, x -> x.count(8), 10000 - 61 * 9 - 27);
        Edges.refuses("no BATCH 60", full, x -> x.batch(60, 0), -1);
    }

    private static void actsByTheFirstThatHolds() {
        String rules = "grade 3 if parts > 0; in pan if look < 101 then heat 7;"
                + "in pan if parts > 9 then heat 3; in pan if parts > 8 then heat 2;";
        duePan("none holds", Edges.after(() -> pan(8, 99, rules), x -> x.boil(1)), 8, 20, 0);
        duePan("the last", Edges.after(() -> pan(9, 99, rules), x -> x.boil(1)), 1, 180, 2);
        duePan("the first of two", Edges.after(() -> pan(10, 99, rules), x -> x.boil(1)), 1, 200,
                3);
        String draws = "in pan if parts > 0 then draw; in pan if parts > 0 then heat 3;";
        duePan("draw of 20: nothing, nor the next",
                Edges.after(() -> pan(9, 99, draws), x -> x.boil(1)), 9, 20, 0, 1);
    }

    /** Whether a MINUTE finds that the TEST holds, and so sets HEAT to 5. */
    private static void dueHolds(String test, Edges.State state, boolean due) {
        MapleLines x = state.make();
        Check.rules(x, "in pan if " + test + " then heat 5;");
        x.boil(1);
        Check.due(test, x.pan(2) == 5, due);
    }

    private static void testsWhatIsAtItsMost() {
        String[] things = {"parts", "strength", "heat", "minutes", "day"};
        int[] most = {5000, 20, 9, 300, 99};
        Edges.State full = () -> {
            MapleLines x = tank(5000);
            for (int day = x.count(1); day < 99; day++) {
                x.day(-1, 0);
            }
            Check.rules(x, "in pan if minutes = 0 then heat 9;");
            x.let(5000);
            x.boil(300);
            return x;
        };
        for (int i = 0; i < things.length; i++) {
            for (int by = -1; by <= 1; by++) {
                dueHolds(things[i] + " < " + (most[i] + by), full, by > 0);
                dueHolds(things[i] + " = " + (most[i] + by), full, by == 0);
                dueHolds(things[i] + " > " + (most[i] + by), full, by < 0);
            }
            dueHolds(things[i] + " < 0", full, false);
            dueHolds(things[i] + " = 0", full, false);
            dueHolds(things[i] + " > 0", full, true);
        }
        for (String sign : new String[] {"<", "=", ">"}) {
            for (String number : new String[] {"0", "1", "100", "9999"}) {
                dueHolds("look " + sign + " " + number, full, false);
            }
        }
        dueHolds("heat = 0", () -> pan(5), true);
        dueHolds("minutes = 0", () -> pan(5), true);
        dueHolds("minutes < 1", () -> pan(5), true);
    }

    private static void testsAgainst9999() {
        int[] letIn = {499, 500};
        for (int sap : letIn) {
            Edges.State boiled = () -> {
                MapleLines x = pan(sap, 1000, "in pan if parts > 1 then heat 9;");
                x.boil(20);
                Check.rules(x, "in pan if parts > 0 then heat 0;");
                x.boil(1);
                return x;
            };
            Edges.takes("STRENGTH of " + sap, boiled, x -> x.pan(1), sap * 20);
            dueHolds("strength > 9999", boiled, sap == 500);
            dueHolds("strength < 9999", boiled, sap == 499);
            dueHolds("strength = 9980", boiled, sap == 499);
        }
    }

    private static void isDrawnOnTheLastDay() {
        MapleLines x = Check.bush();
        for (int year = 1; year <= 20; year++) {
            x.year();
        }
        x.tap(0, 0);
        for (int day = 1; day <= 99; day++) {
            x.day(-10, 10);
        }
        x.wood(100);
        Check.rules(x, "in pan if day < 99 then heat 1; in pan if parts > 1 then heat 9;"
                + "in pan if day > 98 then draw; grade 0 if day = 99;");
        Check.drawBatch(x, 40);
        x.look(0, 0, 0);
        x.look(0, 1, 0);
        Check.due("DAY 99", x.batch(0, 2), 99);
        Check.due("YEAR 20", x.batch(0, 3), 20);
        Check.due("graded by it", x.batch(0, 4), 0);
    }

    private static void isAskedForWhat0To5() {
        Edges.within("what", LIVELY, MapleLines::pan, 0, 5, -1);
        Edges.within("what of an empty PAN", NEW, MapleLines::pan, 0, 5, -1);
        duePan("lively", LIVELY, 4, 200, 9, 1, 0, 800);
    }

    private static void tellsNothingWhenEmpty() {
        duePan("new", NEW, 0, 0, 0, 0, 0, 0);
        Edges.State drawn = Edges.after(LIVELY, x -> x.boil(2));
        Edges.takes("drawn", drawn, x -> x.count(9), 4);
        duePan("drawn", drawn, 0, 0, 0, 0, 0, 0);
    }
}
