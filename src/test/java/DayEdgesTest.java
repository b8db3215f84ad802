/** The boundary cases of promises 10, 11 and 12: DAYS, YEARS, and what is FORETOLD. */
public final class DayEdgesTest {
    private static final Edges.State LIVELY = Edges::lively;

    public static void main(String[] args) {
        hasALowOfMinus30To30();
        hasAHighOfMinus30To40();
        hasNoHighBelowItsLow();
        isOneOf99();
        countsFrostFrom0To10();
        countsThawFrom0To10();
        cutsWhatATapGives();
        fillsTheTankUpTo20000();
        spillsNothingThatIsLeft();
        driesWithTheFifthDay();
        driesByDaysOfOneYear();
        isOfAYear0To20();
        beginsTheYearAtDay0();
        beginsTheYearWithAnEmptyTankAndPan();
        foretellsWeatherAsTold();
        foretellsWhat0And1();
        foretellsDaysThatWere();
        foretellsInLowestTerms();
        Check.end();
    }

    private static void hasALowOfMinus30To30() {
        Edges.within("low", LIVELY, (x, low) -> x.day(low, 40), -30, 30, -1);
    }

    private static void hasAHighOfMinus30To40() {
        Edges.within("high", LIVELY, (x, high) -> x.day(-30, high), -30, 40, -1);
    }

    private static void hasNoHighBelowItsLow() {
        for (int low : new int[] {-30, -10, -1, 0, 1, 30}) {
            Edges.takes("high as low " + low, LIVELY, x -> x.day(low, low), 4);
            Edges.refuses("high below low " + low, LIVELY, x -> x.day(low, low - 1), -1);
        }
        Edges.refuses("both wrong", LIVELY, x -> x.day(31, -31), -1);
        Edges.refuses("the ends of int", LIVELY, x -> x.day(Integer.MIN_VALUE, Integer.MAX_VALUE),
                -1);
    }

    private static MapleLines days(int many) {
        MapleLines x = oneTap();
        for (int day = 0; day < many; day++) {
            x.day(-1, 1);
        }
        return x;
    }

    private static MapleLines oneTap() {
        MapleLines x = new MapleLines();
        x.node(0, 1, 1, 0);
        x.tree(1, 80);
        x.tap(0, 0);
        return x;
    }

    private static void isOneOf99() {
        Edges.takes("the first DAY", () -> days(0), x -> x.day(-1, 1), 1);
        Edges.fills("DAY 99", () -> days(98), x -> x.day(-1, 1), 99, -1);
        Edges.refuses("DAY 100, and not as told", () -> days(99), x -> x.day(1, -1), -1);
        Edges.State nextYear = Edges.after(() -> days(99), MapleLines::year);
        Edges.takes("the first of the next YEAR", nextYear, x -> x.day(-1, 1), 1);
    }

    private static void dueGiven(int low, int high, int due) {
        MapleLines x = oneTap();
        x.day(low, high);
        Check.due("day(" + low + ", " + high + ") gave", x.count(12), due);
    }

    private static void countsFrostFrom0To10() {
        int[] lows = {5, 1, 0, -1, -2, -9, -10, -11, -30};
        int[] frosts = {0, 0, 0, 1, 2, 9, 10, 10, 10};
        for (int i = 0; i < lows.length; i++) {
            dueGiven(lows[i], 10, frosts[i] * 10);
        }
    }

    private static void countsThawFrom0To10() {
        int[] highs = {-10, -5, -1, 0, 1, 2, 9, 10, 11, 40};
        int[] thaws = {0, 0, 0, 0, 1, 2, 9, 10, 10, 10};
        for (int i = 0; i < highs.length; i++) {
            dueGiven(-10, highs[i], 10 * thaws[i]);
        }
    }

    private static void cutsWhatATapGives() {
        int[] vacuums = {0, 49, 50, 51, 99, 100};
        int[] due = {2, 2, 3, 3, 3, 4};
        for (int i = 0; i < vacuums.length; i++) {
            MapleLines x = oneTap();
            x.pump(vacuums[i]);
            x.day(-1, 2);
            Check.due("2 times 100 and " + vacuums[i] + " by 100", x.count(12), due[i]);
        }
        MapleLines x = Check.bush();
        x.pump(99);
        x.day(-1, 1);
        Check.due("cut for each of three TAPS", x.count(12), 3);
    }

    /** A full TANK, of which so much was let out; a DAY of FROST 1 and THAW 1 then gives 3. */
    private static MapleLines fullBut(int much) {
        MapleLines x = Check.bush();
        for (int day = 0; day < 34; day++) {
            x.day(-10, 10);
        }
        x.let(much);
        x.pump(0);
        return x;
    }

    private static void dueTank(int room, int dueTank, int dueSpilt) {
        MapleLines x = fullBut(room);
        Check.due("the TANK", x.count(5), 20000 - room);
        Check.due("SPILT", x.count(6), 400);
        x.day(-1, 1);
        Check.due("the TANK with room for " + room, x.count(5), dueTank);
        Check.due("SPILT with room for " + room, x.count(6), 400 + dueSpilt);
        Check.due("came, SPILT or not", x.count(12), 20403);
        Check.due("the MEMBER's, SPILT or not", x.member(0, 0), 20403);
        Check.due("the TREE's, SPILT or not", x.treeOf(0, 5), 20403);
        Check.due("FORETOLD, SPILT or not", x.foretold(-1, 1, 0), 3);
    }

    private static void fillsTheTankUpTo20000() {
        dueTank(4, 19999, 0);
        dueTank(3, 20000, 0);
        dueTank(2, 20000, 1);
        dueTank(1, 20000, 2);
        dueTank(0, 20000, 3);
    }

    private static void spillsNothingThatIsLeft() {
        MapleLines x = fullBut(0);
        x.node(0, 1, 0, 7);
        x.tap(x.tree(2, 80), 0);
        x.day(-1, 1);
        Check.due("LEFT", x.count(7), 1);
        Check.due("SPILT", x.count(6), 403);
        Check.due("came", x.count(12), 20403);
        Check.due("the MEMBER of what is LEFT", x.member(7, 0), 0);
        x.let(4000);
        x.day(-10, 10);
        Check.due("LEFT, with room in the TANK", x.count(7), 101);
        Check.due("the TANK", x.count(5), 16300);
    }

    private static MapleLines warm(int... lows) {
        MapleLines x = oneTap();
        for (int low : lows) {
            x.day(low, 10);
        }
        return x;
    }

    private static void dueGives(String when, Edges.State state, int due) {
        MapleLines x = state.make();
        int ever = x.count(12);
        x.day(-1, 1);
        Check.due(when, x.count(12) - ever, due);
    }

    private static void driesWithTheFifthDay() {
        dueGives("4 DAYS without FROST", () -> warm(0, 0, 0, 0), 1);
        dueGives("5 DAYS without FROST", () -> warm(0, 0, 0, 0, 0), 0);
        dueGives("6 DAYS without FROST", () -> warm(0, 0, 0, 0, 0, 0), 0);
        dueGives("5 DAYS, FROST on the third", () -> warm(0, 0, -1, 0, 0), 1);
        dueGives("4, FROST, 4", () -> warm(0, 5, 1, 0, -1, 0, 3, 0, 0), 1);
        dueGives("4, FROST, 5", () -> warm(0, 5, 1, 0, -1, 0, 3, 0, 0, 0), 0);
        dueGives("5, then FROST", () -> warm(0, 0, 0, 0, 0, -1), 0);
        Edges.State refused = Edges.after(() -> warm(0, 0, 0, 0), x -> x.day(0, 41));
        dueGives("4 DAYS, and one refused", refused, 1);
        Edges.State tappedLater = Edges.after(Edges.after(() -> warm(0, 0, 0, 0, 0),
                x -> x.tree(1, 80)), x -> x.tap(1, 0));
        dueGives("a TAP made later", tappedLater, 0);
    }

    private static void driesByDaysOfOneYear() {
        Edges.State tapped = Edges.after(Edges.after(() -> warm(0, 0, 0, 0), MapleLines::year),
                x -> x.tap(0, 90));
        dueGives("4 DAYS of last YEAR", tapped, 1);
        Edges.State one = Edges.after(tapped, x -> x.day(0, 10));
        dueGives("and 1 of this", one, 1);
        Edges.State four = one;
        for (int day = 1; day < 4; day++) {
            four = Edges.after(four, x -> x.day(0, 10));
        }
        dueGives("and 4 of this", four, 1);
        dueGives("and 5 of this", Edges.after(four, x -> x.day(0, 10)), 0);
        Edges.State dryYear = Edges.after(Edges.after(() -> warm(0, 0, 0, 0, 0), MapleLines::year),
                x -> x.tap(0, 90));
        dueGives("the YEAR behind a dry one", dryYear, 1);
    }

    private static MapleLines years(int many) {
        MapleLines x = oneTap();
        for (int year = 0; year < many; year++) {
            x.year();
        }
        return x;
    }

    private static void isOfAYear0To20() {
        Edges.takes("the first that begins", () -> years(0), MapleLines::year, 1);
        Edges.fills("YEAR 20", () -> years(19), MapleLines::year, 20, -1);
        Edges.State inUse = () -> {
            MapleLines x = years(20);
            x.tap(0, 0);
            x.day(-10, 10);
            x.day(0, 4);
            x.let(60);
            return x;
        };
        Edges.refuses("YEAR 21 leaves TAPS, TANK and PAN", inUse, MapleLines::year, -1);
        Edges.takes("a DAY of YEAR 20", inUse, x -> x.day(-10, 10), 3);
    }

    private static void beginsTheYearAtDay0() {
        MapleLines x = days(99);
        Check.due("the YEAR", x.year(), 1);
        Check.due("the DAY", x.count(1), 0);
        Check.due("TAPS", x.treeOf(0, 2), 0);
        Check.due("HOLES", x.treeOf(0, 4), 1);
        Check.due("gave this YEAR", x.treeOf(0, 5), 0);
        Check.due("came this YEAR", x.member(0, 0), 0);
        Check.due("came ever", x.count(12), 99);
        x.day(-1, 1);
        Check.due("HOLES of last YEAR give nothing", x.count(12), 99);
    }

    private static void beginsTheYearWithAnEmptyTankAndPan() {
        Edges.State full = Edges.after(() -> fullBut(0), x -> x.let(5000));
        Edges.State begun = Edges.after(full, MapleLines::year);
        Edges.takes("the TANK", begun, x -> x.count(5), 0);
        Edges.takes("the PAN", begun, x -> x.pan(0), 0);
        Edges.takes("its sugar", begun, x -> x.pan(5), 0);
        Edges.takes("its STRENGTH", begun, x -> x.pan(1), 0);
        Edges.takes("SPILT stays", begun, x -> x.count(6), 400);
        Edges.refuses("nothing to let in", begun, x -> x.let(1), -1);
        Edges.takes("nothing boils", begun, x -> x.boil(300), 0);
        Edges.takes("both empty before", () -> years(1), MapleLines::year, 2);
        Edges.State minutes = Edges.after(full, x -> x.boil(9));
        Edges.takes("its MINUTES", Edges.after(minutes, MapleLines::year), x -> x.pan(3), 0);
    }

    /** DAYS of all the FROST and THAW that the edges of low and high come to. */
    private static MapleLines weather() {
        MapleLines x = oneTap();
        x.day(-10, 10);
        x.day(10, 10);
        x.day(-10, -10);
        x.day(5, 5);
        x.day(4, 4);
        return x;
    }

    private static void foretellsWeatherAsTold() {
        for (int what = 0; what <= 1; what++) {
            int asked = what;
            Edges.within("low FORETOLD", DayEdgesTest::weather,
                    (x, low) -> x.foretold(low, 40, asked), -30, 30, -1);
            Edges.within("high FORETOLD", DayEdgesTest::weather,
                    (x, high) -> x.foretold(-30, high, asked), -30, 40, -1);
            Edges.within("high FORETOLD from low", DayEdgesTest::weather,
                    (x, high) -> x.foretold(5, high, asked), 5, 40, -1);
        }
    }

    private static void foretellsWhat0And1() {
        Edges.within("what", LIVELY, (x, what) -> x.foretold(-10, 10, what), 0, 1, -1);
    }

    private static void foretellsDaysThatWere() {
        Edges.refuses("no DAY was", MapleLines::new, x -> x.foretold(-1, 1, 0), -1);
        Edges.refuses("no DAY was, the lower", MapleLines::new, x -> x.foretold(-1, 1, 1), -1);
        Edges.State one = () -> days(1);
        int[][] others = {{0, 1}, {-2, 1}, {-1, 0}, {-1, 2}, {-10, 10}, {0, 0}};
        for (int[] other : others) {
            Edges.refuses("no such DAY was", one, x -> x.foretold(other[0], other[1], 0), -1);
            Edges.refuses("no such DAY was", one, x -> x.foretold(other[0], other[1], 1), -1);
        }
        Edges.State cold = Edges.after(DayEdgesTest::oneTap, x -> x.day(-11, 12));
        Edges.takes("10 as 11", cold, x -> x.foretold(-10, 10, 0), 100);
        Edges.takes("30 as 11", cold, x -> x.foretold(-30, 40, 0), 100);
        Edges.refuses("9 isn't as 11", cold, x -> x.foretold(-9, 10, 0), -1);
        Edges.refuses("9 isn't as 12", cold, x -> x.foretold(-10, 9, 0), -1);
        Edges.State refused = Edges.after(MapleLines::new, x -> x.day(-31, 1));
        Edges.refuses("a DAY that was refused", refused, x -> x.foretold(-10, 1, 0), -1);
    }

    private static void foretellsInLowestTerms() {
        Edges.takes("nothing: 0", () -> weather(), x -> x.foretold(5, 5, 0), 0);
        Edges.takes("by 1", () -> weather(), x -> x.foretold(5, 5, 1), 1);
        Edges.State three = Edges.after(Edges.after(() -> weather(), x -> x.day(5, 5)),
                x -> x.day(0, 5));
        Edges.takes("nothing on 3 DAYS: 0", three, x -> x.foretold(5, 5, 0), 0);
        Edges.takes("by 1, of 3 DAYS", three, x -> x.foretold(5, 5, 1), 1);
        Edges.State dry = Edges.after(() -> warm(0, 0, 0, 0, 0), x -> x.day(-1, 1));
        Edges.takes("DRY TAPS give nothing: 0", dry, x -> x.foretold(-1, 1, 0), 0);
        Edges.takes("DRY TAPS, by 1", dry, x -> x.foretold(-1, 1, 1), 1);
        Edges.State twoYears = Edges.after(Edges.after(() -> days(3), MapleLines::year),
                x -> x.day(-1, 1));
        Edges.takes("3 by 4", twoYears, x -> x.foretold(-1, 1, 0), 3);
        Edges.takes("3 by 4, of any YEAR", twoYears, x -> x.foretold(-1, 1, 1), 4);
        Edges.State six = Edges.after(Edges.after(twoYears, x -> x.day(-1, 1)), x -> x.day(-1, 1));
        Edges.takes("3 by 6: 1", six, x -> x.foretold(-1, 1, 0), 1);
        Edges.takes("3 by 6: by 2", six, x -> x.foretold(-1, 1, 1), 2);
        Edges.takes("99 by 99: 1", () -> days(99), x -> x.foretold(-1, 1, 0), 1);
        Edges.takes("99 by 99: by 1", () -> days(99), x -> x.foretold(-1, 1, 1), 1);
    }
}
