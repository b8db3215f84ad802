/** Promises 3, 4 and 9: tree, tap and treeOf. */
public final class TreeTest {
    public static void main(String[] args) {
        takesTrees();
        holdsSixtyTrees();
        allowsTapsByGirth();
        keepsHolesApart();
        forgetsHolesAfterThreeYears();
        refusesInOrder();
        holdsThreeHundredHoles();
        tellsOfATree();
        Check.end();
    }

    private static void takesTrees() {
        MapleLines x = new MapleLines();
        x.node(0, 1, 1, 0);
        Check.due("at the house", x.tree(0, 100), -1);
        Check.due("at no node", x.tree(2, 100), -1);
        Check.due("at node -1", x.tree(-1, 100), -1);
        Check.due("girth 29", x.tree(1, 29), -1);
        Check.due("girth 401", x.tree(1, 401), -1);
        Check.due("nothing was done", x.count(3), 0);
        Check.due("girth 30", x.tree(1, 30), 0);
        Check.due("girth 400", x.tree(1, 400), 1);
        Check.due("trees", x.count(3), 2);
    }

    private static void holdsSixtyTrees() {
        MapleLines x = new MapleLines();
        x.node(0, 1, 1, 0);
        for (int i = 0; i < 60; i++) {
            Check.due("tree " + i, x.tree(1, 100), i);
        }
        Check.due("tree 60", x.tree(1, 100), -1);
        Check.due("trees", x.count(3), 60);
        Check.due("trees of the node", x.nodeOf(1, 6), 60);
        Check.due("no tree 60", x.treeOf(60, 0), -1);
    }

    private static void allowsTapsByGirth() {
        int[] girths = {30, 79, 80, 149, 150, 199, 200, 400};
        int[] allowed = {0, 0, 1, 1, 2, 2, 3, 3};
        MapleLines x = new MapleLines();
        x.node(0, 1, 1, 0);
        for (int i = 0; i < girths.length; i++) {
            x.tree(1, girths[i]);
            Check.due("taps of girth " + girths[i], x.treeOf(i, 3), allowed[i]);
            for (int tap = 0; tap < allowed[i]; tap++) {
                Check.due("tap of girth " + girths[i], x.tap(i, tap * 90), tap + 1);
            }
            Check.due("a tap above, girth " + girths[i], x.tap(i, 300), -3);
            Check.due("taps made, girth " + girths[i], x.treeOf(i, 2), allowed[i]);
        }
    }

    private static void keepsHolesApart() {
        MapleLines x = new MapleLines();
        x.node(0, 1, 1, 0);
        x.tree(1, 200);
        x.tree(1, 200);
        Check.due("the first", x.tap(0, 10), 1);
        Check.due("the same", x.tap(0, 10), -4);
        Check.due("39 above", x.tap(0, 49), -4);
        Check.due("39 below, round the north", x.tap(0, 331), -4);
        Check.due("40 below, round the north", x.tap(0, 330), 2);
        Check.due("40 above", x.tap(0, 50), 3);
        Check.due("another tree's holes don't count", x.tap(1, 10), 1);
        Check.due("the other way round the north", x.tap(1, 359), -4);
    }

    private static void forgetsHolesAfterThreeYears() {
        MapleLines x = new MapleLines();
        x.node(0, 1, 1, 0);
        x.tree(1, 80);
        Check.due("in year 0", x.tap(0, 0), 1);
        for (int year = 1; year <= 3; year++) {
            x.year();
            Check.due("too near in year " + year, x.tap(0, 39), -4);
        }
        x.year();
        Check.due("healed in year 4", x.tap(0, 0), 2);
        Check.due("one tap this year", x.treeOf(0, 2), 1);
    }

    private static void refusesInOrder() {
        MapleLines x = new MapleLines();
        x.node(0, 1, 1, 0);
        x.tree(1, 100);
        Check.due("no such tree", x.tap(1, 0), -2);
        Check.due("tree -1", x.tap(-1, 0), -2);
        Check.due("angle -1", x.tap(0, -1), -2);
        Check.due("angle 360", x.tap(0, 360), -2);
        Check.due("angle 359", x.tap(0, 359), 1);
        Check.due("both no angle and full", x.tap(0, 360), -2);
        Check.due("both full and too near", x.tap(0, 359), -3);
        Check.due("holes", x.count(4), 1);
    }

    private static void holdsThreeHundredHoles() {
        MapleLines x = new MapleLines();
        x.node(0, 1, 1, 0);
        for (int tree = 0; tree < 50; tree++) {
            x.tree(1, 400);
        }
        for (int hole = 0; hole < 300; hole++) {
            if (hole == 150) {
                x.year();
            }
            int tree = hole % 50;
            Check.due("hole " + hole, x.tap(tree, hole / 50 * 60), hole / 50 + 1);
        }
        x.day(-10, 10);
        Check.due("the taps among them give", x.count(12), 150 * 100);
        x.year();
        Check.due("too near goes ahead of 300", x.tap(0, 0), -4);
        Check.due("no tree goes ahead of 300", x.tap(50, 0), -2);
        x.tree(1, 400);
        Check.due("hole 300 of a new tree", x.tap(50, 0), -5);
        Check.due("holes", x.count(4), 300);
        Check.due("holes of the new tree", x.treeOf(50, 4), 0);
    }

    private static void tellsOfATree() {
        MapleLines x = Check.bush();
        x.node(1, 1, 2, 0);
        x.tree(2, 150);
        x.tap(1, 5);
        x.day(-1, 1);
        int[] due = {2, 150, 1, 2, 1, 2, 0};
        for (int what = 0; what < due.length; what++) {
            Check.due("treeOf(1, " + what + ")", x.treeOf(1, what), due[what]);
        }
        Check.due("treeOf(1, 7)", x.treeOf(1, 7), -1);
        Check.due("treeOf(1, -1)", x.treeOf(1, -1), -1);
        Check.due("treeOf(2, 0)", x.treeOf(2, 0), -1);
        Check.due("treeOf(-1, 0)", x.treeOf(-1, 0), -1);
        x.year();
        int[] later = {2, 150, 0, 2, 1, 0, 0};
        for (int what = 0; what < later.length; what++) {
            Check.due("treeOf(1, " + what + ") a year on", x.treeOf(1, what), later[what]);
        }
    }
}
