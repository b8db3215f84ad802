/** Promise 1: a new object. */
public final class NewObjectTest {
    public static void main(String[] args) {
        MapleLines x = new MapleLines();
        for (int what = 0; what <= 12; what++) {
            Check.due("count(" + what + ")", x.count(what), what == 2 ? 1 : 0);
        }
        for (int what = 0; what <= 5; what++) {
            Check.due("pan(" + what + ")", x.pan(what), 0);
        }
        for (int member = 0; member <= 9; member++) {
            Check.due("member(" + member + ", 0)", x.member(member, 0), 0);
            Check.due("member(" + member + ", 1)", x.member(member, 1), 0);
        }
        Check.due("fault()", x.fault(), MapleLines.NONE);
        Check.due("nodeOf(0, 3)", x.nodeOf(0, 3), 0);
        Check.due("nodeOf(1, 0)", x.nodeOf(1, 0), -1);
        Check.due("treeOf(0, 0)", x.treeOf(0, 0), -1);
        Check.due("batch(0, 0)", x.batch(0, 0), -1);
        Check.due("two objects share nothing", alone(x), 1);
        Check.end();
    }

    private static int alone(MapleLines x) {
        MapleLines other = new MapleLines();
        other.node(0, 1, 1, 1);
        return x.count(2);
    }
}
