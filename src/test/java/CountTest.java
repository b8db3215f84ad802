/** Promise 25: count. */
public final class CountTest {
    public static void main(String[] args) {
        MapleLines x = Check.boilingBush(34, "");
        x.year();
        x.tap(0, 60);
        x.node(0, 1, 0, 0);
        x.tree(2, 100);
        x.tap(1, 60);
        x.day(-10, 10);
        x.day(-10, 10);
        x.let(40);
        x.boil(3);
        x.feed(0, 0, 0, 0, 0);
        int[] due = {1, 2, 3, 2, 5, 360, 400, 400, 9982, 1, 2, 20, 20800};
        for (int what = 0; what < due.length; what++) {
            Check.due("count(" + what + ")", x.count(what), due[what]);
        }
        Check.due("count(13)", x.count(13), -1);
        Check.due("count(-1)", x.count(-1), -1);
        Check.due("count(the greatest int)", x.count(Integer.MAX_VALUE), -1);
        Check.end();
    }
}
