import java.util.ArrayList;
import java.util.List;

/**
 * What the tests of boundary cases share: the last value that is taken, the first that is refused,
 * and that a refused call changed nothing that other calls tell, then or later. States are made
 * anew for each look at them, so that no object is used for more than its 512 calls.
 */
final class Edges {
    static final int NONE = MapleLines.NONE;
    static final int FALSE = 0;
    static final int TRUE = 1;

    private static final int LEAST = Integer.MIN_VALUE;
    private static final int MOST = Integer.MAX_VALUE;
    private static final int ASKED_OF_ONE = 100;

    interface State {
        MapleLines make();
    }

    interface Call {
        long on(MapleLines x);
    }

    interface CallWith {
        long on(MapleLines x, int argument);
    }

    private record Question(String name, Call call) { }

    private Edges() {
    }

    static int truth(boolean answer) {
        return answer ? TRUE : FALSE;
    }

    static State after(State state, Call call) {
        return () -> {
            MapleLines x = state.make();
            call.on(x);
            return x;
        };
    }

    static void takes(String name, State state, Call call, long due) {
        Check.due(name, call.on(state.make()), due);
    }

    static void refuses(String name, State state, Call call, long due) {
        takes(name, state, call, due);
        dueUnchanged(name, state, call);
    }

    /** From least to most is taken; what is beside these, and the ends of int, is refused. */
    static void within(String name, State state, CallWith call, int least, int most, long refusal) {
        for (int taken : new int[] {least, most}) {
            boolean refused = call.on(state.make(), taken) == refusal;
            Check.due(name + " " + taken + " is refused", refused, false);
        }
        refusesAll(name, state, call, refusal, LEAST, LEAST + 1, least - 1, most + 1, MOST - 1,
                MOST);
    }

    static void refusesAll(String name, State state, CallWith call, long refusal,
            int... arguments) {
        for (int argument : arguments) {
            refuses(name + " " + argument, state, x -> call.on(x, argument), refusal);
        }
    }

    /** The state has room for one more such call, which is answered with last, and for no other. */
    static void fills(String name, State state, Call call, long last, long refusal) {
        takes(name + ", the last", state, call, last);
        refuses(name + ", one more", after(state, call), call, refusal);
    }

    static void dueUnchanged(String name, State state, Call call) {
        State touched = after(state, call);
        List<Question> now = questionsOf(state.make());
        dueAlike(name + ", then", state, touched, now);
        for (List<Question> acts : List.of(coldLater(), warmLater())) {
            Call goOn = x -> doAll(acts, x);
            dueAlike(name + ", later", state, touched, acts);
            dueAlike(name + ", later still", after(state, goOn), after(touched, goOn), now);
        }
    }

    private static long doAll(List<Question> acts, MapleLines x) {
        long last = 0;
        for (Question act : acts) {
            last = act.call.on(x);
        }
        return last;
    }

    private static void dueAlike(String when, State one, State other, List<Question> questions) {
        for (int from = 0; from < questions.size(); from += ASKED_OF_ONE) {
            MapleLines x = other.make();
            MapleLines y = one.make();
            int until = Math.min(questions.size(), from + ASKED_OF_ONE);
            for (Question question : questions.subList(from, until)) {
                Check.due(when + ": " + question.name, question.call.on(x), question.call.on(y));
            }
        }
    }

    private static List<Question> questionsOf(MapleLines x) {
        List<Question> all = new ArrayList<>();
        ask(all, "count", 1, 13, (y, at, what) -> y.count(what));
        ask(all, "pan", 1, 6, (y, at, what) -> y.pan(what));
        ask(all, "fault", 1, 1, (y, at, what) -> y.fault());
        ask(all, "nodeOf", x.count(2) + 1, 9, MapleLines::nodeOf);
        ask(all, "treeOf", x.count(3) + 1, 7, MapleLines::treeOf);
        ask(all, "batch", x.count(9) + 1, 8, MapleLines::batch);
        ask(all, "member", 10, 2, MapleLines::member);
        ask(all, "foretold upper", 11, 11, (y, frost, thaw) -> y.foretold(-frost, thaw, 0));
        ask(all, "foretold lower", 11, 11, (y, frost, thaw) -> y.foretold(-frost, thaw, 1));
        return all;
    }

    private interface Asking {
        int of(MapleLines x, int at, int what);
    }

    private static void ask(List<Question> all, String name, int rows, int whats, Asking asking) {
        for (int row = 0; row < rows; row++) {
            for (int column = 0; column < whats; column++) {
                int at = row;
                int what = column;
                all.add(new Question(name + "(" + at + ", " + what + ")",
                        x -> asking.of(x, at, what)));
            }
        }
    }

    // Acts that bring to light what no question tells. Those of the warm row begin with what the
    // cold row's own acts would hide: the bytes on the tape, and the DAYS without FROST.

    private static List<Question> coldLater() {
        List<Question> acts = new ArrayList<>();
        act(acts, "pump(100)", x -> truth(x.pump(100)));
        act(acts, "day(-7, 7)", x -> x.day(-7, 7));
        act(acts, "let(1)", x -> x.let(1));
        act(acts, "boil(3)", x -> x.boil(3));
        for (int grade = 0; grade <= 4; grade++) {
            int sold = grade;
            act(acts, "sell(" + grade + ", 101)", x -> x.sell(sold, 101));
        }
        act(acts, "feed", x -> x.feed(0x20202020, 0x20202020, 0x20202020, 0x20202020, 0x20202020));
        act(acts, "rules", x -> x.rules(x.count(11)));
        act(acts, "year()", MapleLines::year);
        for (int angle = 0; angle < 360; angle += 45) {
            int at = angle;
            act(acts, "tap(0, " + angle + ")", x -> x.tap(0, at));
        }
        act(acts, "node", x -> x.node(0, 1, 1, 1));
        act(acts, "tree", x -> x.tree(1, 80));
        act(acts, "day(-3, 3)", x -> x.day(-3, 3));
        return acts;
    }

    private static List<Question> warmLater() {
        List<Question> acts = new ArrayList<>();
        act(acts, "rules", x -> x.rules(x.count(11)));
        act(acts, "fault()", MapleLines::fault);
        act(acts, "pump(100)", x -> truth(x.pump(100)));
        for (int day = 0; day < 5; day++) {
            act(acts, "day(0, 5)", x -> x.day(0, 5));
            act(acts, "treeOf(0, 6)", x -> x.treeOf(0, 6));
        }
        act(acts, "day(-7, 7)", x -> x.day(-7, 7));
        act(acts, "let(1)", x -> x.let(1));
        act(acts, "boil(3)", x -> x.boil(3));
        return acts;
    }

    private static void act(List<Question> acts, String name, Call call) {
        acts.add(new Question(name, call));
    }

    /**
     * A bush in its second YEAR with some of everything: NODES that run and one that doesn't,
             LEAKS,
     * readings, TAPS of both YEARS, a TREE that may have none, sap in the TANK and the PAN, three
     * BATCHES (sold; with both LOOKS; with one), RULES, a FAULT, and 20 bytes on the tape.
     */
    static MapleLines lively() {
        MapleLines x = new MapleLines();
        x.pump(80);
        x.node(0, 10, 20, 0);
        x.node(1, 20, 30, 1);
        x.node(1, 30, 20, 2);
        x.node(2, 40, 99, 9);
        x.leak(1, 5);
        x.leak(2, 20);
        x.gauge(2, 50);
        x.gauge(4, 40);
        x.tree(1, 200);
        x.tree(3, 150);
        x.tree(4, 100);
        x.tree(2, 79);
        x.tap(0, 10);
        x.tap(0, 330);
        x.tap(1, 100);
        x.tap(2, 0);
        x.day(-10, 10);
        x.day(-3, 4);
        x.wood(200);
        Check.rules(x, "in pan if parts = 1 then draw; in pan if parts > 1 then heat 9;"
                + "grade 0 if look > 80; grade 2 if look > 40;");
        for (int batch = 0; batch < 3; batch++) {
            Check.drawBatch(x, 40);
            x.look(batch, 0, 90 - batch);
        }
        x.look(0, 1, 50);
        x.look(1, 1, 85);
        x.sell(2, 101);
        x.year();
        x.tap(0, 100);
        x.tap(1, 200);
        x.tap(2, 90);
        x.day(-5, 6);
        x.day(2, 7);
        x.day(0, 3);
        x.let(40);
        x.boil(1);
        Check.rules(x, "grade 5");
        Check.feed(x, "grade 1 if look > 5;");
        return x;
    }
}
