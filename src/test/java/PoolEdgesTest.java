/** The boundary cases of promises 20 and 21: POOLS, and what is told of a MEMBER. */
public final class PoolEdgesTest {
    private static final Edges.State LIVELY = Edges::lively;

    public static void main(String[] args) {
        isOfAGrade0To4();
        isSoldFor0To1000000();
        isOfBatchesThatAreThere();
        isOfBatchesNotSold();
        isSoldIfSomethingCameThisYear();
        isRefusedForMoreThanOneReason();
        partsNoCoins();
        partsTheRestOneByOne();
        partsTheRestToTheLesserMember();
        partsToTheLastMember();
        partsAMillionByAllThatCanCome();
        sellsSixtyAtOnce();
        isAskedForByAMember0To9();
        isAskedForWhat0And1();
        Check.end();
    }

    /** TAPS of MEMBERS 0 on, each of which gave 1 part; a BATCH of each GRADE,
            and one of GRADE 4. */
    private static MapleLines shares(int... taps) {
        MapleLines x = Check.bush();
        x.day(-10, 10);
        x.wood(1000);
        Check.rules(x, "in pan if parts = 1 then draw; in pan if parts > 1 then heat 9;"
                + "grade 0 if look = 0; grade 1 if look = 1; grade 2 if look = 2;"
                + "grade 3 if look = 3;");
        for (int grade = 0; grade <= 4; grade++) {
            Check.drawBatch(x, 40);
            x.look(grade, 0, grade);
            x.look(grade, 1, 0);
        }
        x.year();
        x.pump(0);
        for (int member = 0; member < taps.length; member++) {
            int node = x.node(0, 1, 1, member);
            for (int tap = 0; tap < taps[member]; tap++) {
                x.tap(x.tree(node, 80), 0);
            }
        }
        x.day(-1, 1);
        return x;
    }

    private static void dueCoins(int pool, int[] taps, int... due) {
        MapleLines x = shares(taps);
        x.sell(4, pool);
        for (int member = 0; member < 10; member++) {
            Check.due(pool + " coins: member(" + member + ", 1)", x.member(member, 1),
                    member < due.length ? due[member] : 0);
        }
    }

    private static void isOfAGrade0To4() {
        Edges.within("GRADE", () -> shares(1, 2), (x, grade) -> x.sell(grade, 10), 0, 4, -1);
        Edges.refusesAll("GRADE, with a BATCH that has none yet", LIVELY,
                (x, grade) -> x.sell(grade, 10), -1, Integer.MIN_VALUE, -1, 5, Integer.MAX_VALUE);
        for (int grade = 0; grade <= 4; grade++) {
            int sold = grade;
            Edges.State pool = Edges.after(() -> shares(1, 2), x -> x.sell(sold, 9));
            for (int batch = 0; batch <= 4; batch++) {
                int asked = batch;
                Edges.takes("GRADE " + grade + ": BATCH " + batch + " is sold", pool,
                        x -> x.batch(asked, 5), batch == grade ? 1 : 0);
            }
        }
    }

    private static void isSoldFor0To1000000() {
        Edges.within("coins", () -> shares(1, 2), (x, coins) -> x.sell(2, coins), 0, 1000000, -1);
    }

    private static void isOfBatchesThatAreThere() {
        Edges.refuses("no BATCH at all", () -> {
            MapleLines x = Check.bush();
            x.day(-1, 1);
            return x;
        }, x -> x.sell(4, 10), -1);
        Edges.refuses("none of GRADE 3", LIVELY, x -> x.sell(3, 10), -1);
        Edges.refuses("none of GRADE 4", LIVELY, x -> x.sell(4, 10), -1);
        Edges.takes("one of GRADE 0, one LOOK is missing", LIVELY, x -> x.sell(0, 10), 1);
        Edges.State looked = Edges.after(LIVELY, x -> Edges.truth(x.look(2, 1, 81)));
        Edges.takes("two of GRADE 0", looked, x -> x.sell(0, 10), 2);
        Edges.takes("the one with one LOOK", Edges.after(LIVELY, x -> x.sell(0, 10)),
                x -> x.batch(2, 5), 0);
    }

    private static void isOfBatchesNotSold() {
        Edges.refuses("sold before", LIVELY, x -> x.sell(2, 10), -1);
        for (int grade = 0; grade <= 4; grade++) {
            int sold = grade;
            Edges.fills("the last of GRADE " + grade, () -> shares(1, 2), x -> x.sell(sold, 7), 1,
                    -1);
        }
    }

    private static void isSoldIfSomethingCameThisYear() {
        Edges.refuses("nothing came", () -> shares(), x -> x.sell(4, 10), -1);
        Edges.refuses("nothing came yet", Edges.after(() -> shares(3), MapleLines::year),
                x -> x.sell(4, 10), -1);
        Edges.takes("1 part came", () -> shares(1), x -> x.sell(4, 10), 1);
        Edges.State left = Edges.after(() -> {
            MapleLines x = shares();
            x.tap(x.tree(x.node(0, 1, 0, 1), 80), 0);
            return x;
        }, x -> x.day(-1, 1));
        Edges.takes("1 part was LEFT", left, x -> x.treeOf(1, 5), 1);
        Edges.refuses("what is LEFT didn't come", left, x -> x.sell(4, 10), -1);
    }

    private static void isRefusedForMoreThanOneReason() {
        Edges.refuses("no GRADE, no coins", () -> shares(1), x -> x.sell(5, -1), -1);
        Edges.refuses("no coins, nothing came", () -> shares(), x -> x.sell(4, 1000001), -1);
        Edges.refuses("a new one", MapleLines::new, x -> x.sell(0, 0), -1);
        Edges.refuses("the ends of int", () -> shares(1),
                x -> x.sell(Integer.MIN_VALUE, Integer.MAX_VALUE), -1);
    }

    private static void partsNoCoins() {
        dueCoins(0, new int[] {1, 2, 3}, 0, 0, 0);
        Edges.takes("sold for none", () -> shares(1, 2), x -> x.sell(1, 0), 1);
        Edges.State sold = Edges.after(() -> shares(1, 2), x -> x.sell(1, 0));
        Edges.takes("sold", sold, x -> x.batch(1, 5), 1);
    }

    private static void partsTheRestOneByOne() {
        int[] taps = {1, 2, 4};
        dueCoins(1, taps, 0, 0, 1);
        dueCoins(2, taps, 0, 1, 1);
        dueCoins(3, taps, 0, 1, 2);
        dueCoins(4, taps, 1, 1, 2);
        dueCoins(5, taps, 1, 1, 3);
        dueCoins(6, taps, 1, 2, 3);
        dueCoins(7, taps, 1, 2, 4);
        dueCoins(8, taps, 1, 2, 5);
    }

    private static void partsTheRestToTheLesserMember() {
        int[] alike = {1, 1, 1, 1, 1, 1, 1, 1, 1, 1};
        dueCoins(1, alike, 1, 0, 0, 0, 0, 0, 0, 0, 0, 0);
        dueCoins(9, alike, 1, 1, 1, 1, 1, 1, 1, 1, 1, 0);
        dueCoins(10, alike, 1, 1, 1, 1, 1, 1, 1, 1, 1, 1);
        dueCoins(11, alike, 2, 1, 1, 1, 1, 1, 1, 1, 1, 1);
        dueCoins(19, alike, 2, 2, 2, 2, 2, 2, 2, 2, 2, 1);
        dueCoins(1, new int[] {0, 3, 3}, 0, 1, 0);
        dueCoins(5, new int[] {1, 2, 1, 2, 0}, 1, 2, 1, 1, 0);
        dueCoins(3, new int[] {0, 2, 1, 2, 1}, 0, 1, 1, 1, 0);
    }

    private static void partsToTheLastMember() {
        dueCoins(1000000, new int[] {0, 0, 0, 0, 0, 0, 0, 0, 0, 1}, 0, 0, 0, 0, 0, 0, 0, 0, 0,
                1000000);
        dueCoins(1000000, new int[] {1}, 1000000);
        dueCoins(1, new int[] {1, 0, 0, 0, 0, 0, 0, 0, 0, 2}, 0, 0, 0, 0, 0, 0, 0, 0, 0, 1);
        dueCoins(3, new int[] {1, 0, 0, 0, 0, 0, 0, 0, 0, 1}, 2, 0, 0, 0, 0, 0, 0, 0, 0, 1);
    }

    private static void partsAMillionByAllThatCanCome() {
        MapleLines x = new MapleLines();
        x.pump(100);
        int node = x.node(0, 1, 1, 3);
        int other = x.node(0, 1, 1, 8);
        for (int tree = 0; tree < 60; tree++) {
            x.tree(tree < 20 ? node : other, 400);
            x.tap(tree, 0);
            x.tap(tree, 120);
            x.tap(tree, 240);
        }
        x.wood(1000);
        Check.rules(x, "in pan if parts = 1 then draw; in pan if parts > 1 then heat 9;");
        for (int day = 0; day < 99; day++) {
            x.day(-10, 10);
        }
        Check.drawBatch(x, 40);
        x.look(0, 0, 0);
        x.look(0, 1, 0);
        Check.due("all that can come in a YEAR", x.member(3, 0) + x.member(8, 0), 3564000);
        Check.due("sold", x.sell(4, 1000000), 1);
        Check.due("a third, the greater remainder isn't its", x.member(3, 1), 333333);
        Check.due("two thirds, and the coin over", x.member(8, 1), 666667);
    }

    private static void sellsSixtyAtOnce() {
        MapleLines x = Check.boilingBush(10, "");
        for (int batch = 0; batch < 60; batch++) {
            Check.drawBatch(x, 35);
            x.look(batch, 0, 0);
            x.look(batch, 1, 100);
        }
        Check.due("all 60", x.sell(4, 60), 60);
        Check.due("the last is sold", x.batch(59, 5), 1);
        Check.due("none is there", x.sell(4, 60), -1);
        Check.due("coins", x.member(0, 1), 60);
    }

    private static void isAskedForByAMember0To9() {
        for (int what = 0; what <= 1; what++) {
            int asked = what;
            Edges.within("MEMBER", LIVELY, (x, member) -> x.member(member, asked), 0, 9, -1);
            Edges.within("MEMBER at first", MapleLines::new, (x, member) -> x.member(member, asked),
                    0, 9, -1);
        }
        int[] came = {52, 0, 0, 0, 0, 0, 0, 0, 0, 46};
        int[] coins = {70, 0, 0, 0, 0, 0, 0, 0, 0, 31};
        for (int member = 0; member <= 9; member++) {
            Check.due("member(" + member + ", 0)", Edges.lively().member(member, 0), came[member]);
            Check.due("member(" + member + ", 1)", Edges.lively().member(member, 1), coins[member]);
        }
    }

    private static void isAskedForWhat0And1() {
        Edges.within("what", LIVELY, (x, what) -> x.member(0, what), 0, 1, -1);
        Edges.within("what of one without", LIVELY, (x, what) -> x.member(5, what), 0, 1, -1);
    }
}
