/** The boundary cases of promises 3, 4 and 9: TREES, their HOLES, and what is told of them. */
public final class TreeEdgesTest {
    private static final Edges.State LIVELY = Edges::lively;

    public static void main(String[] args) {
        standsAtANodeThatIsNotTheHouse();
        hasAGirthOf30To400();
        isOneOf60();
        mayHaveTapsByItsGirth();
        isTappedAtAnAngleOf0To359();
        isTappedIfItIsThere();
        isTapped40DegreesAwayAtLeast();
        isTapped40DegreesAwayFromEachHole();
        isTappedNearHolesOfFourYearsAgo();
        isNotTappedNearWhatAnotherTreeHas();
        has300HolesAtMost();
        isRefusedAtTheFirstOfFour();
        isAskedForByANumberThatIsThere();
        isAskedForWhat0To6();
        isDryIfItHasTaps();
        Check.end();
    }

    private static void standsAtANodeThatIsNotTheHouse() {
        Edges.within("NODE", LIVELY, (x, node) -> x.tree(node, 100), 1, 4, -1);
        Edges.refusesAll("NODE of the house alone", MapleLines::new, (x, node) -> x.tree(node, 100),
                -1, -1, 0, 1);
    }

    private static void hasAGirthOf30To400() {
        Edges.within("GIRTH", LIVELY, (x, girth) -> x.tree(1, girth), 30, 400, -1);
        MapleLines x = Edges.lively();
        x.tree(1, 30);
        x.tree(1, 400);
        Check.due("GIRTH 30", x.treeOf(4, 1), 30);
        Check.due("GIRTH 400", x.treeOf(5, 1), 400);
    }

    private static MapleLines trees(int many, int girth) {
        MapleLines x = new MapleLines();
        x.node(0, 1, 1, 0);
        for (int tree = 0; tree < many; tree++) {
            x.tree(1, girth);
        }
        return x;
    }

    private static void isOneOf60() {
        Edges.fills("60 TREES", () -> trees(59, 80), x -> x.tree(1, 90), 59, -1);
        Edges.refuses("60 TREES, another GIRTH", () -> trees(60, 80), x -> x.tree(1, 400), -1);
        Edges.refuses("60 TREES, and not as told", () -> trees(60, 80), x -> x.tree(0, 401), -1);
        MapleLines x = trees(60, 80);
        Check.due("60 TREES are told", x.count(3), 60);
        Check.due("all at their NODE", x.nodeOf(1, 6), 60);
        Check.due("the last is tapped", x.tap(59, 359), 1);
        x.day(-2, 3);
        Check.due("the last gives", x.treeOf(59, 5), 6);
        Edges.refuses("TREE 60", () -> trees(60, 80), y -> y.tap(60, 0), -2);
    }

    private static void mayHaveTapsByItsGirth() {
        int[] girths = {30, 79, 80, 149, 150, 199, 200, 400};
        int[] may = {0, 0, 1, 1, 2, 2, 3, 3};
        for (int i = 0; i < girths.length; i++) {
            int girth = girths[i];
            int most = may[i];
            Edges.State tapped = () -> {
                MapleLines x = trees(1, girth);
                for (int tap = 0; tap < most; tap++) {
                    x.tap(0, tap * 40);
                }
                return x;
            };
            Edges.takes("TAPS that GIRTH " + girth + " may have", tapped, x -> x.treeOf(0, 3),
                    most);
            Edges.takes("TAPS that GIRTH " + girth + " has", tapped, x -> x.treeOf(0, 2), most);
            Edges.refuses("a TAP more of GIRTH " + girth, tapped, x -> x.tap(0, 200), -3);
            Edges.State nextYear = Edges.after(tapped, MapleLines::year);
            Edges.takes("GIRTH " + girth + " the next YEAR", nextYear, x -> x.tap(0, 200),
                    most == 0 ? -3 : most + 1);
            Edges.takes("GIRTH " + girth + " the next YEAR", nextYear, x -> x.treeOf(0, 2), 0);
        }
    }

    private static void isTappedAtAnAngleOf0To359() {
        Edges.within("angle", () -> trees(1, 200), (x, angle) -> x.tap(0, angle), 0, 359, -2);
        Edges.refusesAll("angle", LIVELY, (x, angle) -> x.tap(0, angle), -2,
                Integer.MIN_VALUE, -360, -1, 360, 720, Integer.MAX_VALUE);
    }

    private static void isTappedIfItIsThere() {
        Edges.within("TREE", () -> trees(3, 200), (x, tree) -> x.tap(tree, 0), 0, 2, -2);
        Edges.refusesAll("TREE of none", MapleLines::new, (x, tree) -> x.tap(tree, 0), -2, -1, 0,
                1);
    }

    private static void isTapped40DegreesAwayAtLeast() {
        int[] first = {0, 1, 20, 39, 40, 41, 180, 319, 320, 321, 340, 359};
        for (int angle : first) {
            for (int other = 0; other < 360; other++) {
                MapleLines x = trees(1, 200);
                x.tap(0, angle);
                int apart = Math.min(Math.floorMod(angle - other, 360),
                        Math.floorMod(other - angle, 360));
                Check.due("tap(0, " + other + ") beside " + angle, x.tap(0, other), apart < 40 ? -4
                        : 2);
            }
        }
        Edges.refuses("39 the shorter way, across 0", () -> tappedAt(20), x -> x.tap(0, 341), -4);
        Edges.takes("40 the shorter way, across 0", () -> tappedAt(20), x -> x.tap(0, 340), 2);
        Edges.refuses("39 back across 0", () -> tappedAt(340), x -> x.tap(0, 19), -4);
        Edges.takes("40 back across 0", () -> tappedAt(340), x -> x.tap(0, 20), 2);
        Edges.refuses("0 away", () -> tappedAt(0), x -> x.tap(0, 0), -4);
        Edges.refuses("1 away, across 0", () -> tappedAt(0), x -> x.tap(0, 359), -4);
    }

    private static MapleLines tappedAt(int angle) {
        MapleLines x = trees(1, 200);
        x.tap(0, angle);
        return x;
    }

    private static void isTapped40DegreesAwayFromEachHole() {
        Edges.State two = Edges.after(() -> tappedAt(0), x -> x.tap(0, 80));
        Edges.takes("just between two", two, x -> x.tap(0, 40), 3);
        Edges.refuses("too near the first", two, x -> x.tap(0, 39), -4);
        Edges.refuses("too near the second", two, x -> x.tap(0, 41), -4);
        Edges.State old = Edges.after(two, MapleLines::year);
        Edges.refuses("too near the first of last YEAR", old, x -> x.tap(0, 321), -4);
        Edges.refuses("too near the second of last YEAR", old, x -> x.tap(0, 119), -4);
        Edges.takes("away from both of last YEAR", old, x -> x.tap(0, 120), 3);
    }

    private static MapleLines tappedInYear(int tapped, int now) {
        MapleLines x = trees(1, 80);
        for (int year = 0; year <= now; year++) {
            if (year == tapped) {
                x.tap(0, 5);
            }
            if (year < now) {
                x.year();
            }
        }
        return x;
    }

    private static void isTappedNearHolesOfFourYearsAgo() {
        for (int tapped : new int[] {0, 1, 16}) {
            for (int later = 1; later <= 3; later++) {
                int now = tapped + later;
                Edges.refuses(later + " YEARS later, of YEAR " + tapped,
                        () -> tappedInYear(tapped, now), x -> x.tap(0, 326), -4);
                Edges.takes(later + " YEARS later, 40 away", () -> tappedInYear(tapped, now),
                        x -> x.tap(0, 325), 2);
            }
            Edges.takes("4 YEARS later", () -> tappedInYear(tapped, tapped + 4), x -> x.tap(0, 5),
                    2);
        }
        Edges.takes("5 YEARS later", () -> tappedInYear(0, 5), x -> x.tap(0, 5), 2);
        Edges.takes("20 YEARS later", () -> tappedInYear(0, 20), x -> x.tap(0, 5), 2);
        Edges.refuses("YEAR 20, of YEAR 17", () -> tappedInYear(17, 20), x -> x.tap(0, 5), -4);
    }

    private static void isNotTappedNearWhatAnotherTreeHas() {
        Edges.State both = () -> {
            MapleLines x = trees(2, 80);
            x.tap(0, 5);
            return x;
        };
        Edges.takes("the same angle of another TREE", both, x -> x.tap(1, 5), 1);
    }

    /** Fifty TREES, with six HOLES each once there are 300; in the second YEAR. */
    private static MapleLines holes(int many) {
        MapleLines x = trees(50, 200);
        for (int hole = 0; hole < many; hole++) {
            if (hole == 150) {
                x.year();
            }
            x.tap(hole % 50, hole / 50 * 60);
        }
        return x;
    }

    private static void has300HolesAtMost() {
        Edges.takes("HOLE 299", () -> holes(298), x -> x.tap(48, 300), 6);
        Edges.takes("HOLE 300", () -> holes(299), x -> x.tap(49, 300), 6);
        Edges.takes("300 are told", () -> holes(300), x -> x.count(4), 300);
        Edges.State newTree = Edges.after(() -> holes(300), x -> x.tree(1, 80));
        Edges.refuses("HOLE 301", newTree, x -> x.tap(50, 0), -5);
        Edges.takes("none for the new TREE", newTree, x -> x.treeOf(50, 4), 0);
        MapleLines x = holes(300);
        x.day(-10, 10);
        Check.due("the TAPS among 300 give, the last too", x.count(12), 150 * 100);
        Check.due("the last TREE", x.treeOf(49, 5), 300);
    }

    private static void isRefusedAtTheFirstOfFour() {
        Edges.State full = () -> tappedInYear(0, 0);
        Edges.refuses("-2 ahead of -3: angle", full, x -> x.tap(0, 360), -2);
        Edges.refuses("-2 ahead of -3: TREE", full, x -> x.tap(1, 5), -2);
        Edges.refuses("-3 ahead of -4", full, x -> x.tap(0, 5), -3);
        Edges.refuses("-3 of a TREE that may have none", () -> trees(1, 79), x -> x.tap(0, 0), -3);
        Edges.State holes = () -> holes(300);
        Edges.refuses("-2 ahead of -5: TREE", holes, x -> x.tap(50, 0), -2);
        Edges.refuses("-2 ahead of -5: angle", holes, x -> x.tap(0, -1), -2);
        Edges.refuses("-3 ahead of -5", holes, x -> x.tap(0, 0), -3);
        Edges.State nextYear = Edges.after(holes, MapleLines::year);
        Edges.refuses("-4 ahead of -5", nextYear, x -> x.tap(0, 20), -4);
        Edges.State thin = Edges.after(nextYear, x -> x.tree(1, 79));
        Edges.refuses("-3 ahead of -5, of none it may have", thin, x -> x.tap(50, 0), -3);
    }

    private static void isAskedForByANumberThatIsThere() {
        for (int what = 0; what <= 6; what++) {
            int asked = what;
            Edges.within("what " + what + " of TREE", LIVELY, (x, tree) -> x.treeOf(tree, asked), 0,
                    3, -1);
        }
        Edges.refusesAll("TREE of none", MapleLines::new, (x, tree) -> x.treeOf(tree, 0), -1, -1, 0,
                1);
    }

    private static void isAskedForWhat0To6() {
        Edges.within("what", LIVELY, (x, what) -> x.treeOf(0, what), 0, 6, -1);
        int[] due = {1, 200, 1, 3, 3, 52, 0};
        for (int what = 0; what < due.length; what++) {
            Check.due("treeOf(0, " + what + ")", Edges.lively().treeOf(0, what), due[what]);
        }
    }

    private static MapleLines warm(int days) {
        MapleLines x = trees(2, 80);
        x.tap(0, 0);
        for (int day = 0; day < days; day++) {
            x.day(0, 10);
        }
        return x;
    }

    private static void isDryIfItHasTaps() {
        Edges.takes("4 DAYS without FROST", () -> warm(4), x -> x.treeOf(0, 6), 0);
        Edges.takes("5 DAYS without FROST", () -> warm(5), x -> x.treeOf(0, 6), 1);
        Edges.takes("99 DAYS without FROST", () -> warm(99), x -> x.treeOf(0, 6), 1);
        Edges.takes("no TAPS", () -> warm(5), x -> x.treeOf(1, 6), 0);
        Edges.State madeLater = Edges.after(() -> warm(5), x -> x.tap(1, 0));
        Edges.takes("a TAP made later", madeLater, x -> x.treeOf(1, 6), 1);
        Edges.State nextYear = Edges.after(() -> warm(5), MapleLines::year);
        Edges.takes("a HOLE of last YEAR is no TAP", nextYear, x -> x.treeOf(0, 6), 0);
        Edges.takes("a TAP of this YEAR", Edges.after(nextYear, x -> x.tap(0, 90)),
                x -> x.treeOf(0, 6), 0);
    }
}
