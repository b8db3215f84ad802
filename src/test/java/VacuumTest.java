/** Promises 5, 6 and 7: leak, pump and gauge. */
public final class VacuumTest {
    public static void main(String[] args) {
        pumps();
        leaks();
        leaksNeverBelowZero();
        gauges();
        suspects();
        Check.end();
    }

    private static void pumps() {
        MapleLines x = new MapleLines();
        Check.due("pump(100)", x.pump(100), true);
        Check.due("pump(101)", x.pump(101), false);
        Check.due("pump(-1)", x.pump(-1), false);
        Check.due("still 100", x.nodeOf(0, 3), 100);
        x.node(0, 1, 1, 0);
        Check.due("a new node has the house's", x.nodeOf(1, 3), 100);
        Check.due("pump(0)", x.pump(0), true);
        Check.due("none at the house", x.nodeOf(0, 3), 0);
        Check.due("none at the node", x.nodeOf(1, 3), 0);
    }

    private static void leaks() {
        MapleLines x = new MapleLines();
        x.pump(60);
        x.node(0, 1, 1, 0);
        x.node(1, 1, 2, 0);
        x.node(0, 1, 3, 0);
        Check.due("of the house", x.leak(0, 5), false);
        Check.due("of no node", x.leak(4, 5), false);
        Check.due("of node -1", x.leak(-1, 5), false);
        Check.due("21", x.leak(1, 21), false);
        Check.due("-1", x.leak(1, -1), false);
        Check.due("nothing was done", x.nodeOf(1, 3), 60);
        Check.due("20", x.leak(1, 20), true);
        Check.due("3", x.leak(2, 3), true);
        Check.due("at the first", x.nodeOf(1, 3), 40);
        Check.due("behind it", x.nodeOf(2, 3), 37);
        Check.due("on another way", x.nodeOf(3, 3), 60);
        x.node(2, 1, 4, 0);
        Check.due("a new node behind leaks", x.nodeOf(4, 3), 37);
        Check.due("0", x.leak(1, 0), true);
        Check.due("mended", x.nodeOf(2, 3), 57);
        Check.due("a leak isn't added to the one told before", x.leak(2, 4), true);
        Check.due("at it", x.nodeOf(2, 3), 56);
    }

    private static void leaksNeverBelowZero() {
        MapleLines x = new MapleLines();
        x.pump(30);
        x.node(0, 1, 1, 0);
        x.node(1, 1, 2, 0);
        x.node(2, 1, 3, 0);
        x.leak(1, 20);
        x.leak(2, 20);
        Check.due("at 30 less 40", x.nodeOf(2, 3), 0);
        Check.due("behind it", x.nodeOf(3, 3), 0);
    }

    private static void gauges() {
        MapleLines x = new MapleLines();
        x.node(0, 1, 1, 0);
        Check.due("none at first", x.nodeOf(1, 4), -1);
        Check.due("of the house", x.gauge(0, 5), false);
        Check.due("none of the house", x.gauge(0, -1), false);
        Check.due("of no node", x.gauge(2, 5), false);
        Check.due("101", x.gauge(1, 101), false);
        Check.due("-2", x.gauge(1, -2), false);
        Check.due("nothing was done", x.nodeOf(1, 4), -1);
        Check.due("100", x.gauge(1, 100), true);
        Check.due("reads 100", x.nodeOf(1, 4), 100);
        Check.due("0", x.gauge(1, 0), true);
        Check.due("reads 0", x.nodeOf(1, 4), 0);
        Check.due("none any more", x.gauge(1, -1), true);
        Check.due("reads none", x.nodeOf(1, 4), -1);
    }

    private static void suspects() {
        MapleLines x = new MapleLines();
        x.pump(70);
        x.node(0, 1, 1, 0);
        x.node(1, 1, 2, 0);
        x.node(2, 1, 3, 0);
        Check.due("without a reading", x.nodeOf(3, 5), 0);
        x.gauge(3, 40);
        Check.due("against the house", x.nodeOf(3, 5), 30);
        x.gauge(1, 45);
        Check.due("against the nearest with a reading", x.nodeOf(3, 5), 5);
        Check.due("none between has one to suspect", x.nodeOf(2, 5), 0);
        Check.due("the nearest against the house", x.nodeOf(1, 5), 25);
        x.gauge(2, 40);
        Check.due("as much as the one ahead", x.nodeOf(3, 5), 0);
        x.gauge(2, 39);
        Check.due("more than the one ahead", x.nodeOf(3, 5), 0);
        x.gauge(2, 0);
        Check.due("a reading of 0 is one", x.nodeOf(3, 5), 0);
        Check.due("and is suspect itself", x.nodeOf(2, 5), 45);
        x.gauge(2, -1);
        Check.due("gone again", x.nodeOf(3, 5), 5);
        x.gauge(1, -1);
        x.pump(41);
        Check.due("against the house as it is now", x.nodeOf(3, 5), 1);
        Check.due("the house", x.nodeOf(0, 5), 0);
    }
}
