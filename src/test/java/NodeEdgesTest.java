/** The boundary cases of promises 2 and 8: what a NODE is told with, and what is told of it. */
public final class NodeEdgesTest {
    private static final Edges.State LIVELY = Edges::lively;
    private static final Edges.State NEW = MapleLines::new;

    public static void main(String[] args) {
        runsToANodeThatIsThere();
        hasALengthOf1To100();
        hasAHeightOf0To500();
        hasAMemberOf0To9();
        isOneOf40();
        isRefusedForMoreThanOneReason();
        isNumberedFrom1On();
        fallsIfItIsHigher();
        runsIfAllBetweenFall();
        isAskedForByANumberThatIsThere();
        isAskedForWhat0To8();
        isTheHouse();
        Check.end();
    }

    private static void runsToANodeThatIsThere() {
        Edges.within("to", LIVELY, (x, to) -> x.node(to, 1, 1, 1), 0, 4, -1);
        Edges.within("to, of the house alone", NEW, (x, to) -> x.node(to, 1, 1, 1), 0, 0, -1);
    }

    private static void hasALengthOf1To100() {
        Edges.within("LENGTH", LIVELY, (x, length) -> x.node(4, length, 1, 1), 1, 100, -1);
        MapleLines x = Edges.lively();
        x.node(4, 1, 1, 1);
        x.node(4, 100, 1, 1);
        Check.due("LENGTH 1 behind 70", x.nodeOf(5, 8), 71);
        Check.due("LENGTH 100 behind 70", x.nodeOf(6, 8), 170);
    }

    private static void hasAHeightOf0To500() {
        Edges.within("HEIGHT", LIVELY, (x, height) -> x.node(4, 1, height, 1), 0, 500, -1);
        MapleLines x = Edges.lively();
        x.node(0, 1, 0, 1);
        x.node(0, 1, 500, 1);
        Check.due("HEIGHT 0", x.nodeOf(5, 1), 0);
        Check.due("HEIGHT 500", x.nodeOf(6, 1), 500);
    }

    private static void hasAMemberOf0To9() {
        Edges.within("MEMBER", LIVELY, (x, member) -> x.node(4, 1, 1, member), 0, 9, -1);
        MapleLines x = Edges.lively();
        x.node(0, 1, 1, 0);
        x.node(0, 1, 1, 9);
        Check.due("MEMBER 0", x.nodeOf(5, 7), 0);
        Check.due("MEMBER 9", x.nodeOf(6, 7), 9);
    }

    private static MapleLines nodes(int many) {
        MapleLines x = new MapleLines();
        for (int node = 1; node < many; node++) {
            x.node(node - 1, 100, node, node % 10);
        }
        return x;
    }

    private static void isOneOf40() {
        Edges.fills("40 NODES", () -> nodes(39), x -> x.node(38, 100, 500, 9), 39, -1);
        Edges.refuses("40 NODES, to the house", () -> nodes(40), x -> x.node(0, 1, 1, 1), -1);
        MapleLines x = nodes(40);
        Check.due("40 NODES are told", x.count(2), 40);
        Check.due("LENGTH to the house from the last", x.nodeOf(39, 8), 3900);
        Check.due("the last RUNS", x.nodeOf(39, 2), 1);
        x.pump(100);
        x.leak(1, 20);
        Check.due("VACUUM at the last", x.nodeOf(39, 3), 80);
        x.gauge(39, 1);
        Check.due("the last is SUSPECT by the house", x.nodeOf(39, 5), 99);
        Edges.takes("a TREE at the last", () -> nodes(40), y -> y.tree(39, 30), 0);
        Edges.refuses("a TREE behind the last", () -> nodes(40), y -> y.tree(40, 30), -1);
    }

    private static void isRefusedForMoreThanOneReason() {
        Edges.refuses("all wrong", LIVELY, x -> x.node(-1, 0, -1, -1), -1);
        Edges.refuses("all wrong, above", LIVELY, x -> x.node(5, 101, 501, 10), -1);
        Edges.refuses("all wrong, and 40", () -> nodes(40), x -> x.node(40, 101, 501, 10), -1);
    }

    private static void isNumberedFrom1On() {
        MapleLines x = new MapleLines();
        Check.due("the first", x.node(0, 1, 1, 1), 1);
        Check.due("refused", x.node(2, 1, 1, 1), -1);
        Check.due("the second", x.node(0, 1, 1, 1), 2);
    }

    private static void fallsIfItIsHigher() {
        MapleLines x = new MapleLines();
        x.node(0, 1, 0, 1);
        x.node(0, 1, 1, 1);
        x.node(2, 1, 0, 1);
        x.node(2, 1, 1, 1);
        x.node(2, 1, 2, 1);
        x.node(2, 1, 500, 1);
        x.node(6, 1, 500, 1);
        int[] due = {1, 0, 1, 0, 0, 1, 1, 0};
        for (int node = 0; node < due.length; node++) {
            Check.due("NODE " + node + " RUNS", x.nodeOf(node, 2), due[node]);
        }
    }

    private static void runsIfAllBetweenFall() {
        MapleLines x = new MapleLines();
        x.node(0, 1, 5, 1);
        x.node(1, 1, 5, 1);
        x.node(2, 1, 6, 1);
        x.node(3, 1, 7, 1);
        x.node(1, 1, 6, 1);
        x.node(5, 1, 7, 1);
        int[] due = {1, 1, 0, 0, 0, 1, 1};
        for (int node = 0; node < due.length; node++) {
            Check.due("NODE " + node + " RUNS", x.nodeOf(node, 2), due[node]);
        }
    }

    private static void isAskedForByANumberThatIsThere() {
        for (int what : new int[] {1, 2, 3, 5, 6, 8}) {
            Edges.within("what " + what + " of NODE", LIVELY, (x, node) -> x.nodeOf(node, what), 0,
                    4, -1);
        }
        for (int what : new int[] {0, 4, 7}) {
            Edges.refusesAll("what " + what + " of NODE", LIVELY, (x, node) -> x.nodeOf(node, what),
                    -1, Integer.MIN_VALUE, -1, 0, 5, 40, Integer.MAX_VALUE);
            Edges.takes("what " + what + " of the last", LIVELY, x -> truthOf(x.nodeOf(4, what)),
                    1);
        }
        Edges.refuses("NODE 1 of the house alone", NEW, x -> x.nodeOf(1, 1), -1);
    }

    private static int truthOf(int answer) {
        return Edges.truth(answer != -1);
    }

    private static void isAskedForWhat0To8() {
        Edges.within("what", LIVELY, (x, what) -> x.nodeOf(4, what), 0, 8, -1);
        Edges.refusesAll("what of the house", LIVELY, (x, what) -> x.nodeOf(0, what), -1,
                Integer.MIN_VALUE, -1, 9, Integer.MAX_VALUE);
        int[] due = {2, 99, 1, 55, 40, 10, 1, 9, 70};
        for (int what = 0; what < due.length; what++) {
            Check.due("nodeOf(4, " + what + ")", Edges.lively().nodeOf(4, what), due[what]);
        }
    }

    private static void isTheHouse() {
        int[] due = {-1, 0, 1, 80, -1, 0, 0, -1, 0};
        for (int what = 0; what < due.length; what++) {
            Check.due("nodeOf(0, " + what + ")", Edges.lively().nodeOf(0, what), due[what]);
        }
        due[3] = 0;
        for (int what = 0; what < due.length; what++) {
            Check.due("nodeOf(0, " + what + ") at first", new MapleLines().nodeOf(0, what),
                    due[what]);
        }
    }
}
