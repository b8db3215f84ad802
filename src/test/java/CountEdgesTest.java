/** The boundary cases of promises 1 and 25: an object that is new, and what is counted. */
public final class CountEdgesTest {
    private static final Edges.State LIVELY = Edges::lively;
    private static final Edges.State NEW = MapleLines::new;

    public static void main(String[] args) {
        isAskedForWhat0To12();
        countsWhatIsThere();
        countsTheHouseAlone();
        sharesNothing();
        Check.end();
    }

    private static void isAskedForWhat0To12() {
        Edges.within("what", LIVELY, MapleLines::count, 0, 12, -1);
        Edges.within("what at first", NEW, MapleLines::count, 0, 12, -1);
    }

    private static void countsWhatIsThere() {
        int[] due = {1, 3, 5, 4, 7, 58, 0, 248, 137, 3, 4, 20, 663};
        for (int what = 0; what < due.length; what++) {
            Check.due("count(" + what + ")", Edges.lively().count(what), due[what]);
        }
    }

    private static void countsTheHouseAlone() {
        for (int what = 0; what <= 12; what++) {
            Check.due("count(" + what + ") at first", new MapleLines().count(what), what == 2 ? 1
                    : 0);
        }
    }

    private static void sharesNothing() {
        Edges.dueUnchanged("another object in use", NEW, x -> Edges.lively().count(0));
        Edges.dueUnchanged("a new object beside it", LIVELY, x -> new MapleLines().count(0));
    }
}
