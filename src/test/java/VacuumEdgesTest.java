/** The boundary cases of promises 5, 6 and 7: LEAKS, the VACUUM at the house, and GAUGES. */
public final class VacuumEdgesTest {
    private static final Edges.State LIVELY = Edges::lively;

    public static void main(String[] args) {
        leaksAtANodeThatIsNotTheHouse();
        leaks0To20();
        pumps0To100();
        isNeverBelow0();
        reads0To100OrNone();
        readsAtANodeThatIsNotTheHouse();
        suspectsWhatReadsLess();
        suspectsByTheNearestThatReads();
        Check.end();
    }

    private static void leaksAtANodeThatIsNotTheHouse() {
        Edges.within("NODE of a LEAK", LIVELY, (x, node) -> Edges.truth(x.leak(node, 7)), 1, 4, 0);
        Edges.refuses("no NODE, no LEAK", LIVELY, x -> Edges.truth(x.leak(5, 21)), 0);
        Edges.refusesAll("NODE of the house alone", MapleLines::new,
                (x, node) -> Edges.truth(x.leak(node, 7)), 0, -1, 0, 1);
    }

    private static void leaks0To20() {
        Edges.within("LEAK", LIVELY, (x, much) -> Edges.truth(x.leak(2, much)), 0, 20, 0);
        MapleLines x = Edges.lively();
        Check.due("75 less 20", x.nodeOf(2, 3), 55);
        x.leak(2, 0);
        Check.due("75 less none", x.nodeOf(2, 3), 75);
        Check.due("and behind it", x.nodeOf(4, 3), 75);
        x.leak(2, 1);
        Check.due("75 less 1", x.nodeOf(4, 3), 74);
    }

    private static void pumps0To100() {
        Edges.within("VACUUM", LIVELY, (x, vacuum) -> Edges.truth(x.pump(vacuum)), 0, 100, 0);
        Edges.within("VACUUM of the house alone", MapleLines::new,
                (x, vacuum) -> Edges.truth(x.pump(vacuum)), 0, 100, 0);
        MapleLines x = Edges.lively();
        x.pump(100);
        Check.due("100 at the house", x.nodeOf(0, 3), 100);
        Check.due("less 5", x.nodeOf(1, 3), 95);
        x.pump(0);
        Check.due("0 at the house", x.nodeOf(0, 3), 0);
        Check.due("0 at NODES", x.nodeOf(4, 3), 0);
    }

    private static MapleLines row(int vacuum) {
        MapleLines x = new MapleLines();
        x.node(0, 1, 1, 0);
        x.node(1, 1, 2, 0);
        x.node(2, 1, 3, 0);
        x.leak(1, 20);
        x.leak(2, 20);
        x.pump(vacuum);
        return x;
    }

    private static void isNeverBelow0() {
        int[] vacuums = {0, 19, 20, 21, 39, 40, 41};
        int[][] due = {{0, 0, 0}, {0, 0, 0}, {0, 0, 0}, {1, 0, 0}, {19, 0, 0}, {20, 0, 0},
            {21, 1, 1}};
        for (int i = 0; i < vacuums.length; i++) {
            MapleLines x = row(vacuums[i]);
            for (int node = 1; node <= 3; node++) {
                Check.due("VACUUM " + vacuums[i] + " at NODE " + node, x.nodeOf(node, 3),
                        due[i][node - 1]);
            }
        }
        MapleLines x = row(10);
        x.tap(x.tree(3, 80), 0);
        x.day(-10, 10);
        Check.due("a TAP gives by 100 at least", x.count(12), 100);
    }

    private static void reads0To100OrNone() {
        Edges.within("reading", LIVELY, (x, reading) -> Edges.truth(x.gauge(1, reading)), -1, 100,
                0);
        Edges.within("reading of one that has one", LIVELY,
                (x, reading) -> Edges.truth(x.gauge(4, reading)), -1, 100, 0);
        MapleLines x = Edges.lively();
        for (int reading : new int[] {100, 0, -1, 1, -1}) {
            x.gauge(4, reading);
            Check.due("the reading", x.nodeOf(4, 4), reading);
        }
        Check.due("NONE where there is none", x.gauge(4, -1), true);
        Check.due("still none", x.nodeOf(4, 4), -1);
    }

    private static void readsAtANodeThatIsNotTheHouse() {
        Edges.within("NODE of a reading", LIVELY, (x, node) -> Edges.truth(x.gauge(node, 7)), 1, 4,
                0);
        Edges.within("NODE of none", LIVELY, (x, node) -> Edges.truth(x.gauge(node, -1)), 1, 4, 0);
        Edges.refusesAll("NODE of the house alone", MapleLines::new,
                (x, node) -> Edges.truth(x.gauge(node, 7)), 0, -1, 0, 1);
    }

    private static MapleLines readings(int house, int first, int second) {
        MapleLines x = new MapleLines();
        x.pump(house);
        x.node(0, 1, 1, 0);
        x.node(1, 1, 2, 0);
        x.gauge(1, first);
        x.gauge(2, second);
        return x;
    }

    private static void dueSuspect(int house, int first, int second, int dueFirst, int dueSecond) {
        MapleLines x = readings(house, first, second);
        String when = "readings " + house + ", " + first + ", " + second;
        Check.due(when + ": the house", x.nodeOf(0, 5), 0);
        Check.due(when + ": the first", x.nodeOf(1, 5), dueFirst);
        Check.due(when + ": the second", x.nodeOf(2, 5), dueSecond);
    }

    private static void suspectsWhatReadsLess() {
        dueSuspect(50, 50, 50, 0, 0);
        dueSuspect(50, 49, 49, 1, 0);
        dueSuspect(50, 51, 50, 0, 1);
        dueSuspect(50, 51, 52, 0, 0);
        dueSuspect(100, 0, 0, 100, 0);
        dueSuspect(0, 100, 0, 0, 100);
        dueSuspect(0, 0, 0, 0, 0);
    }

    private static void dueSuspectAcrossFour() {
        MapleLines x = readings(50, 31, -1);
        x.node(2, 1, 3, 0);
        x.node(3, 1, 4, 0);
        x.node(4, 1, 5, 0);
        x.gauge(5, 30);
        Check.due("the nearest that reads is four ahead", x.nodeOf(5, 5), 1);
        x.gauge(1, -1);
        Check.due("none reads but the house", x.nodeOf(5, 5), 20);
    }

    private static void suspectsByTheNearestThatReads() {
        dueSuspect(50, -1, -1, 0, 0);
        dueSuspect(50, -1, 49, 0, 1);
        dueSuspect(50, -1, 50, 0, 0);
        dueSuspect(50, 20, -1, 30, 0);
        dueSuspect(50, 0, 30, 50, 0);
        dueSuspect(50, 31, 30, 19, 1);
        dueSuspectAcrossFour();
        MapleLines x = readings(50, 31, 30);
        x.leak(1, 20);
        Check.due("a LEAK is no reading", x.nodeOf(2, 5), 1);
        x.gauge(1, -1);
        Check.due("the house's VACUUM", x.nodeOf(2, 5), 20);
        x.pump(30);
        Check.due("as it is now", x.nodeOf(2, 5), 0);
    }
}
