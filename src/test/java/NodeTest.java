/** Promises 2 and 8: node and nodeOf. */
public final class NodeTest {
    public static void main(String[] args) {
        refusesWhatIsNotAsTold();
        takesTheEdges();
        holdsForty();
        tellsOfTheHouse();
        tellsOfANode();
        tellsWhatRuns();
        Check.end();
    }

    private static void refusesWhatIsNotAsTold() {
        MapleLines x = new MapleLines();
        Check.due("to itself", x.node(1, 1, 1, 1), -1);
        Check.due("to -1", x.node(-1, 1, 1, 1), -1);
        Check.due("to the least int", x.node(Integer.MIN_VALUE, 1, 1, 1), -1);
        Check.due("to the greatest int", x.node(Integer.MAX_VALUE, 1, 1, 1), -1);
        Check.due("length 0", x.node(0, 0, 1, 1), -1);
        Check.due("length 101", x.node(0, 101, 1, 1), -1);
        Check.due("height -1", x.node(0, 1, -1, 1), -1);
        Check.due("height 501", x.node(0, 1, 501, 1), -1);
        Check.due("member -1", x.node(0, 1, 1, -1), -1);
        Check.due("member 10", x.node(0, 1, 1, 10), -1);
        Check.due("nothing was done", x.count(2), 1);
    }

    private static void takesTheEdges() {
        MapleLines x = new MapleLines();
        Check.due("the least of all", x.node(0, 1, 0, 0), 1);
        Check.due("the most of all", x.node(1, 100, 500, 9), 2);
        Check.due("nodes", x.count(2), 3);
    }

    private static void holdsForty() {
        MapleLines x = new MapleLines();
        for (int i = 1; i < 40; i++) {
            Check.due("node " + i, x.node(i - 1, 100, i, i % 10), i);
        }
        Check.due("node 40", x.node(0, 1, 1, 1), -1);
        Check.due("nodes", x.count(2), 40);
        Check.due("length from the last", x.nodeOf(39, 8), 3900);
        Check.due("the last runs", x.nodeOf(39, 2), 1);
        Check.due("no node 40", x.nodeOf(40, 0), -1);
        Check.due("pump", x.pump(60), true);
        Check.due("leak", x.leak(1, 20), true);
        Check.due("vacuum at the last", x.nodeOf(39, 3), 40);
        x.gauge(39, 10);
        Check.due("the last against the house", x.nodeOf(39, 5), 50);
    }

    private static void tellsOfTheHouse() {
        MapleLines x = Check.bush();
        int[] due = {-1, 0, 1, 100, -1, 0, 0, -1, 0};
        for (int what = 0; what < due.length; what++) {
            Check.due("nodeOf(0, " + what + ")", x.nodeOf(0, what), due[what]);
        }
        Check.due("nodeOf(0, 9)", x.nodeOf(0, 9), -1);
        Check.due("nodeOf(0, -1)", x.nodeOf(0, -1), -1);
    }

    private static void tellsOfANode() {
        MapleLines x = new MapleLines();
        x.node(0, 10, 20, 3);
        x.node(1, 30, 40, 4);
        x.pump(50);
        x.leak(1, 7);
        x.leak(2, 8);
        x.gauge(2, 33);
        x.tree(1, 100);
        x.tree(2, 100);
        x.tree(2, 100);
        int[] due = {1, 40, 1, 35, 33, 17, 2, 4, 40};
        for (int what = 0; what < due.length; what++) {
            Check.due("nodeOf(2, " + what + ")", x.nodeOf(2, what), due[what]);
        }
        Check.due("nodeOf(2, 9)", x.nodeOf(2, 9), -1);
        Check.due("nodeOf(2, -1)", x.nodeOf(2, -1), -1);
        for (int what = 0; what < due.length; what++) {
            Check.due("nodeOf(3, " + what + ")", x.nodeOf(3, what), -1);
            Check.due("nodeOf(-1, " + what + ")", x.nodeOf(-1, what), -1);
        }
    }

    private static void tellsWhatRuns() {
        MapleLines x = new MapleLines();
        x.node(0, 1, 0, 0);
        x.node(1, 1, 9, 0);
        x.node(0, 1, 1, 0);
        x.node(3, 1, 1, 0);
        x.node(3, 1, 2, 0);
        Check.due("as high as the house", x.nodeOf(1, 2), 0);
        Check.due("falls to one that doesn't", x.nodeOf(2, 2), 0);
        Check.due("one above the house", x.nodeOf(3, 2), 1);
        Check.due("as high as the one ahead", x.nodeOf(4, 2), 0);
        Check.due("one above the one ahead", x.nodeOf(5, 2), 1);
    }
}
