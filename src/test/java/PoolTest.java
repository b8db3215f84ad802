/** Promises 20 and 21: sell and member. */
public final class PoolTest {
    public static void main(String[] args) {
        refusesOddPools();
        sellsAllOfAGrade();
        sellsNothingWhereNothingCame();
        partsToTheWholeCoin();
        partsTheRestToTheLesserMember();
        partsByThisYear();
        partsManyCoins();
        partsByTheLeastThatCame();
        tellsOfMembers();
        Check.end();
    }

    /** A bush with a NODE for each number of TAPS told, of MEMBERS 0 on; each TAP gave 100 once. */
    private static MapleLines shares(int... taps) {
        MapleLines x = new MapleLines();
        for (int member = 0; member < taps.length; member++) {
            int node = x.node(0, 1, 1, member);
            for (int tap = 0; tap < taps[member]; tap++) {
                x.tap(x.tree(node, 80), 0);
            }
        }
        x.day(-10, 10);
        x.wood(1000);
        Check.rules(x, "in pan if parts = 1 then draw; in pan if parts > 1 then heat 9;"
                + "grade 0 if look = 0; grade 1 if look = 1;grade 2 if look = 2;");
        return x;
    }

    private static void batchOf(MapleLines x, int grade) {
        Check.drawBatch(x, 40);
        x.look(x.count(9) - 1, 0, grade);
        x.look(x.count(9) - 1, 1, grade);
    }

    private static void dueCoins(String when, MapleLines x, int... due) {
        for (int member = 0; member < due.length; member++) {
            Check.due(when + ": member(" + member + ", 1)", x.member(member, 1), due[member]);
        }
    }

    private static void refusesOddPools() {
        MapleLines x = shares(1);
        batchOf(x, 1);
        Check.due("grade -1", x.sell(-1, 10), -1);
        Check.due("grade 5", x.sell(5, 10), -1);
        Check.due("coins -1", x.sell(1, -1), -1);
        Check.due("coins 1,000,001", x.sell(1, 1000001), -1);
        Check.due("none of grade 0", x.sell(0, 10), -1);
        Check.due("nothing was done", x.batch(0, 5), 0);
        dueCoins("nothing was done", x, 0);
        Check.due("no coins", x.sell(1, 0), 1);
        Check.due("sold", x.batch(0, 5), 1);
        Check.due("none is there any more", x.sell(1, 10), -1);
    }

    private static void sellsAllOfAGrade() {
        MapleLines x = shares(5);
        batchOf(x, 1);
        batchOf(x, 2);
        batchOf(x, 1);
        Check.drawBatch(x, 40);
        x.look(3, 0, 1);
        Check.due("two of grade 1", x.sell(1, 1000000), 2);
        int[] sold = {1, 0, 1, 0};
        for (int batch = 0; batch < sold.length; batch++) {
            Check.due("sold " + batch, x.batch(batch, 5), sold[batch]);
        }
        x.look(3, 1, 1);
        Check.due("the one without a look, later", x.sell(1, 3), 1);
        Check.due("the one of grade 2", x.sell(2, 4), 1);
        dueCoins("all pools", x, 1000007, 0);
    }

    private static void sellsNothingWhereNothingCame() {
        MapleLines x = shares(1);
        batchOf(x, 1);
        x.year();
        Check.due("nothing came this year", x.sell(1, 10), -1);
        Check.due("not sold", x.batch(0, 5), 0);
        x.node(0, 1, 0, 3);
        x.tap(x.tree(2, 80), 0);
        x.day(-10, 10);
        Check.due("what is left didn't come", x.sell(1, 10), -1);
        Check.due("not sold", x.batch(0, 5), 0);
    }

    private static void partsToTheWholeCoin() {
        MapleLines x = shares(2, 0, 3, 2);
        batchOf(x, 1);
        Check.due("10 by 2, 3, 2", x.sell(1, 10), 1);
        dueCoins("2.86, 4.29, 2.86", x, 3, 0, 4, 3, 0);
        batchOf(x, 1);
        x.sell(1, 5);
        dueCoins("1.43, 2.14, 1.43 more", x, 5, 0, 6, 4, 0);
        batchOf(x, 1);
        x.sell(1, 7);
        dueCoins("2, 3, 2 more", x, 7, 0, 9, 6, 0);
        batchOf(x, 1);
        x.sell(1, 1);
        dueCoins("0.29, 0.43, 0.29 more", x, 7, 0, 10, 6, 0);
    }

    private static void partsTheRestToTheLesserMember() {
        MapleLines x = shares(0, 1, 1, 1, 0, 1, 1, 1, 1, 1);
        batchOf(x, 1);
        x.sell(1, 5);
        dueCoins("alike, 5", x, 0, 1, 1, 1, 0, 1, 1, 0, 0, 0);
        batchOf(x, 1);
        x.sell(1, 7);
        dueCoins("alike, 7", x, 0, 2, 2, 2, 0, 2, 2, 1, 1, 0);
    }

    private static void partsByThisYear() {
        MapleLines x = shares(3, 1);
        batchOf(x, 1);
        x.year();
        x.tap(3, 90);
        x.day(-10, 10);
        x.sell(1, 8);
        dueCoins("by this year alone", x, 0, 8);
        x.year();
        dueCoins("coins stay", x, 0, 8);
        Check.due("what came doesn't", x.member(1, 0), 0);
    }

    private static void partsManyCoins() {
        MapleLines x = shares(7, 20, 3);
        for (int day = 0; day < 80; day++) {
            x.day(-10, 10);
        }
        batchOf(x, 0);
        Check.due("a million", x.sell(0, 1000000), 1);
        dueCoins("a million", x, 233333, 666667, 100000);
    }

    private static void partsByTheLeastThatCame() {
        MapleLines x = shares(1, 1);
        batchOf(x, 1);
        x.year();
        x.tap(1, 90);
        x.day(-1, 1);
        Check.due("one part came", x.member(1, 0), 1);
        Check.due("it is enough", x.sell(1, 9), 1);
        dueCoins("all to its member", x, 0, 9);
    }

    private static void tellsOfMembers() {
        MapleLines x = shares(0, 2);
        Check.due("came", x.member(1, 0), 200);
        Check.due("none came", x.member(0, 0), 0);
        Check.due("member 9", x.member(9, 0), 0);
        Check.due("member 10", x.member(10, 0), -1);
        Check.due("member -1", x.member(-1, 1), -1);
        Check.due("what 2", x.member(1, 2), -1);
        Check.due("what -1", x.member(1, -1), -1);
    }
}
