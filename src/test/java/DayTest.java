/** Promises 10, 11 and 12: day, year and foretold. */
public final class DayTest {
    public static void main(String[] args) {
        refusesOddWeather();
        countsNinetyNineDays();
        givesByFrostThawAndVacuum();
        partsWhatCame();
        spills();
        dries();
        driesLaterTaps();
        needsFiveDaysInARow();
        beginsAYear();
        countsTwentyYears();
        foretells();
        foretellsInLowestTerms();
        Check.end();
    }

    private static void refusesOddWeather() {
        MapleLines x = new MapleLines();
        Check.due("low -31", x.day(-31, 0), -1);
        Check.due("low 31", x.day(31, 35), -1);
        Check.due("high 41", x.day(0, 41), -1);
        Check.due("high -31", x.day(-30, -31), -1);
        Check.due("high below low", x.day(1, 0), -1);
        Check.due("the least int", x.day(Integer.MIN_VALUE, Integer.MAX_VALUE), -1);
        Check.due("nothing was done", x.count(1), 0);
        Check.due("coldest", x.day(-30, -30), 1);
        Check.due("warmest", x.day(30, 40), 2);
    }

    private static void countsNinetyNineDays() {
        MapleLines x = new MapleLines();
        for (int day = 1; day <= 99; day++) {
            Check.due("day " + day, x.day(-1, 1), day);
        }
        Check.due("day 100", x.day(-1, 1), -1);
        Check.due("the day", x.count(1), 99);
        x.year();
        Check.due("in the next year", x.day(-1, 1), 1);
    }

    private static void givesByFrostThawAndVacuum() {
        MapleLines x = new MapleLines();
        x.node(0, 1, 1, 2);
        x.tree(1, 100);
        x.tap(0, 0);
        x.pump(33);
        x.leak(1, 2);
        x.day(-3, 7);
        Check.due("21 times 131 by 100", x.count(5), 27);
        x.day(-30, 40);
        Check.due("100 times 131 by 100 more", x.count(5), 158);
        x.day(-10, 0);
        x.day(-10, -5);
        x.day(0, 10);
        x.day(5, 10);
        Check.due("nothing without frost or thaw", x.count(5), 158);
        Check.due("of the tree", x.treeOf(0, 5), 158);
    }

    private static void partsWhatCame() {
        MapleLines x = new MapleLines();
        x.node(0, 1, 1, 2);
        x.node(0, 1, 0, 3);
        x.node(1, 1, 2, 2);
        x.tree(1, 200);
        x.tree(2, 200);
        x.tree(3, 200);
        x.tap(0, 0);
        x.tap(1, 0);
        x.tap(2, 0);
        x.tap(2, 90);
        x.pump(5);
        x.leak(1, 4);
        x.day(-3, 3);
        Check.due("cut for each tap", x.count(5), 27);
        Check.due("left", x.count(7), 9);
        Check.due("came", x.count(12), 27);
        Check.due("member 2", x.member(2, 0), 27);
        Check.due("what is left is nobody's", x.member(3, 0), 0);
        Check.due("the tree gave it", x.treeOf(1, 5), 9);
        Check.due("two taps", x.treeOf(2, 5), 18);
    }

    private static void spills() {
        MapleLines x = Check.bush();
        for (int i = 0; i < 33; i++) {
            x.day(-10, 10);
        }
        Check.due("the tank", x.count(5), 19800);
        Check.due("none is spilt", x.count(6), 0);
        x.day(-10, 10);
        Check.due("the tank is full", x.count(5), 20000);
        Check.due("spilt", x.count(6), 400);
        Check.due("came, spilt or not", x.count(12), 20400);
        Check.due("the member's, spilt or not", x.member(0, 0), 20400);
        Check.due("the tree's", x.treeOf(0, 5), 20400);
        x.let(100);
        x.day(-10, 10);
        Check.due("full again", x.count(5), 20000);
        Check.due("spilt ever", x.count(6), 900);
    }

    private static void dries() {
        MapleLines x = Check.bush();
        for (int day = 1; day <= 4; day++) {
            x.day(0, 5);
        }
        Check.due("four days", x.treeOf(0, 6), 0);
        x.day(0, 5);
        Check.due("five days", x.treeOf(0, 6), 1);
        x.day(-10, 10);
        Check.due("gives nothing any more", x.count(12), 0);
        Check.due("and is foretold so", x.foretold(-10, 10, 0), 0);
        Check.due("and stays dry", x.treeOf(0, 6), 1);
        x.year();
        Check.due("no taps, none dry", x.treeOf(0, 6), 0);
        x.tap(0, 60);
        Check.due("taps of the next year aren't", x.treeOf(0, 6), 0);
        x.day(-10, 10);
        Check.due("they give", x.count(12), 200);
    }

    private static void driesLaterTaps() {
        MapleLines x = new MapleLines();
        x.node(0, 1, 1, 0);
        x.tree(1, 100);
        for (int day = 1; day <= 5; day++) {
            x.day(0, 5);
        }
        Check.due("no taps, none dry", x.treeOf(0, 6), 0);
        x.tap(0, 0);
        Check.due("one made later", x.treeOf(0, 6), 1);
        x.day(-10, 10);
        Check.due("gives nothing", x.count(12), 0);
    }

    private static void needsFiveDaysInARow() {
        MapleLines x = Check.bush();
        for (int day = 1; day <= 4; day++) {
            x.day(0, 5);
        }
        x.day(-1, 5);
        for (int day = 1; day <= 4; day++) {
            x.day(0, 5);
        }
        Check.due("frost between", x.treeOf(0, 6), 0);
        x.year();
        x.tap(0, 60);
        for (int day = 1; day <= 4; day++) {
            x.day(0, 5);
        }
        Check.due("days of two years", x.treeOf(0, 6), 0);
        x.day(-10, 10);
        Check.due("gives", x.treeOf(0, 5), 200);
    }

    private static void beginsAYear() {
        MapleLines x = Check.boilingBush(2, "");
        x.let(500);
        x.boil(3);
        int ever = x.count(12);
        int wood = x.count(8);
        Check.due("year()", x.year(), 1);
        Check.due("the year", x.count(0), 1);
        Check.due("the day", x.count(1), 0);
        Check.due("the tank", x.count(5), 0);
        Check.due("parts in the pan", x.pan(0), 0);
        Check.due("its strength", x.pan(1), 0);
        Check.due("its minutes", x.pan(3), 0);
        Check.due("its sugar", x.pan(5), 0);
        Check.due("came this year", x.member(0, 0), 0);
        Check.due("came ever", x.count(12), ever);
        Check.due("wood", x.count(8), wood);
        Check.due("statements", x.count(10), 2);
        Check.due("taps", x.treeOf(0, 2), 0);
        Check.due("holes", x.treeOf(0, 4), 3);
        x.day(-10, 10);
        Check.due("old holes give nothing", x.count(12), ever);
    }

    private static void countsTwentyYears() {
        MapleLines x = new MapleLines();
        for (int year = 1; year <= 20; year++) {
            Check.due("year " + year, x.year(), year);
        }
        x.day(-1, 1);
        Check.due("year 21", x.year(), -1);
        Check.due("the year", x.count(0), 20);
        Check.due("nothing was done", x.count(1), 1);
    }

    private static void foretells() {
        MapleLines x = Check.bush();
        x.node(0, 1, 0, 0);
        x.tree(2, 80);
        x.tap(1, 0);
        Check.due("before any day", x.foretold(-4, 4, 0), -1);
        x.day(-4, 4);
        Check.due("left counts too", x.foretold(-4, 4, 0), 128);
        Check.due("one day", x.foretold(-4, 4, 1), 1);
        Check.due("another frost", x.foretold(-5, 4, 0), -1);
        Check.due("another of both", x.foretold(-5, 3, 0), -1);
        Check.due("another thaw", x.foretold(-4, 5, 1), -1);
        Check.due("what 2", x.foretold(-4, 4, 2), -1);
        Check.due("what -1", x.foretold(-4, 4, -1), -1);
        x.day(-20, 30);
        Check.due("ten at most", x.foretold(-10, 10, 0), 800);
        Check.due("colder is alike", x.foretold(-30, 40, 0), 800);
        x.day(3, 3);
        Check.due("no frost is alike", x.foretold(0, 3, 0), 0);
        Check.due("0 by 1", x.foretold(0, 3, 1), 1);
        Check.due("low -31", x.foretold(-31, 30, 0), -1);
        Check.due("low 31", x.foretold(31, 33, 0), -1);
        Check.due("high 41", x.foretold(-20, 41, 0), -1);
        Check.due("high below low", x.foretold(4, 3, 0), -1);
        x.day(-5, -5);
        Check.due("no thaw is alike", x.foretold(-5, 0, 0), 0);
    }

    private static void foretellsInLowestTerms() {
        MapleLines x = new MapleLines();
        x.node(0, 1, 1, 0);
        x.tree(1, 200);
        x.tap(0, 0);
        x.day(-1, 1);
        x.year();
        x.day(-1, 1);
        Check.due("1 by 2, of two years", x.foretold(-1, 1, 0), 1);
        Check.due("its lower", x.foretold(-1, 1, 1), 2);
        x.tap(0, 60);
        x.tap(0, 120);
        x.tap(0, 180);
        x.day(-1, 1);
        x.day(-1, 1);
        x.day(-1, 1);
        x.day(-1, 1);
        Check.due("13 by 6", x.foretold(-1, 1, 0), 13);
        Check.due("its lower", x.foretold(-1, 1, 1), 6);
        x.year();
        x.day(-1, 1);
        x.tap(0, 240);
        x.tap(0, 320);
        x.day(-1, 1);
        Check.due("15 by 8", x.foretold(-1, 1, 0), 15);
        x.day(-1, 1);
        x.year();
        x.day(-1, 1);
        x.day(-1, 1);
        x.day(-1, 1);
        Check.due("17 by 12", x.foretold(-1, 1, 1), 12);
        x.day(-1, 1);
        x.day(-1, 1);
        x.day(-1, 1);
        x.day(-1, 1);
        x.day(-1, 1);
        Check.due("17 by 17, the upper", x.foretold(-1, 1, 0), 1);
        Check.due("17 by 17, the lower", x.foretold(-1, 1, 1), 1);
    }
}
