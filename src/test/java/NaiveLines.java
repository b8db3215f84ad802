import java.math.BigInteger;
import java.util.ArrayList;
import java.util.Comparator;
import java.util.List;
import java.util.regex.Matcher;
import java.util.regex.Pattern;

/**
 * The document once more, as plainly as the Java library lets it be said: nothing is kept that can
 * be worked out again from all that ever happened. RandomRunsTest holds the class against it.
 */
final class NaiveLines {
    record Node(int to, int length, int height, int member) { }

    record Tree(int node, int girth) { }

    record Hole(int tree, int angle, int year) { }

    /** What a TAP gave on a DAY. */
    record Gift(int year, int tree, int much, boolean came) { }

    record Day(int year, int frost, int thaw, int gave) { }

    record Trial(String thing, String sign, int number) { }

    record Statement(String deed, int value, List<Trial> trials) { }

    record Drawn(int parts, int strength, int day, int year, int[] looks, boolean[] sold) { }

    private final List<Node> nodes = new ArrayList<>();
    private final List<Integer> leaks = new ArrayList<>();
    private final List<Integer> readings = new ArrayList<>();
    private final List<Tree> trees = new ArrayList<>();
    private final List<Hole> holes = new ArrayList<>();
    private final List<Gift> gifts = new ArrayList<>();
    private final List<Day> days = new ArrayList<>();
    private final List<Drawn> batches = new ArrayList<>();
    private final int[] coins = new int[10];
    private final StringBuilder tape = new StringBuilder();
    private List<Statement> rules = new ArrayList<>();
    private int vacuum;
    private int year;
    private int tank;
    private int spilt;
    private int parts;
    private BigInteger sugar = BigInteger.ZERO;
    private int heat;
    private int minutes;
    private int wood;
    private int fault = -1;

    NaiveLines() {
        nodes.add(new Node(-1, 0, 0, -1));
        leaks.add(0);
        readings.add(-1);
    }

    private static boolean in(int value, int least, int most) {
        return least <= value && value <= most;
    }

    private boolean isTube(int node) {
        return in(node, 1, nodes.size() - 1);
    }

    int node(int to, int length, int height, int member) {
        if (!in(to, 0, nodes.size() - 1) || !in(length, 1, 100) || !in(height, 0, 500)
                || !in(member, 0, 9) || nodes.size() == 40) {
            return -1;
        }
        nodes.add(new Node(to, length, height, member));
        leaks.add(0);
        readings.add(-1);
        return nodes.size() - 1;
    }

    int tree(int node, int girth) {
        if (!isTube(node) || !in(girth, 30, 400) || trees.size() == 60) {
            return -1;
        }
        trees.add(new Tree(node, girth));
        return trees.size() - 1;
    }

    private int holesOf(int tree, int since) {
        return (int) holes.stream().filter(h -> h.tree == tree && h.year >= since).count();
    }

    private int allowed(int tree) {
        int girth = trees.get(tree).girth;
        return girth >= 200 ? 3 : girth >= 150 ? 2 : girth >= 80 ? 1 : 0;
    }

    int tap(int tree, int angle) {
        if (!in(tree, 0, trees.size() - 1) || !in(angle, 0, 359)) {
            return -2;
        }
        if (holesOf(tree, year) == allowed(tree)) {
            return -3;
        }
        for (Hole hole : holes) {
            int on = Math.floorMod(hole.angle - angle, 360);
            int back = Math.floorMod(angle - hole.angle, 360);
            if (hole.tree == tree && year - hole.year <= 3 && (on < 40 || back < 40)) {
                return -4;
            }
        }
        if (holes.size() == 300) {
            return -5;
        }
        holes.add(new Hole(tree, angle, year));
        return holesOf(tree, 0);
    }

    boolean leak(int node, int much) {
        if (!isTube(node) || !in(much, 0, 20)) {
            return false;
        }
        leaks.set(node, much);
        return true;
    }

    boolean pump(int much) {
        if (!in(much, 0, 100)) {
            return false;
        }
        vacuum = much;
        return true;
    }

    boolean gauge(int node, int reading) {
        if (!isTube(node) || !in(reading, -1, 100)) {
            return false;
        }
        readings.set(node, reading);
        return true;
    }

    private boolean runs(int node) {
        if (node == 0) {
            return true;
        }
        int to = nodes.get(node).to;
        return nodes.get(node).height > nodes.get(to).height && runs(to);
    }

    private int vacuumAt(int node) {
        return node == 0 ? vacuum : Math.max(0, vacuumAt(nodes.get(node).to) - leaks.get(node));
    }

    private int lengthOf(int node) {
        return node == 0 ? 0 : nodes.get(node).length + lengthOf(nodes.get(node).to);
    }

    private int readingTowards(int node) {
        if (node == 0) {
            return vacuum;
        }
        return readings.get(node) >= 0 ? readings.get(node) : readingTowards(nodes.get(node).to);
    }

    private int suspect(int node) {
        if (node == 0 || readings.get(node) < 0) {
            return 0;
        }
        int ahead = readingTowards(nodes.get(node).to);
        return ahead > readings.get(node) ? ahead - readings.get(node) : 0;
    }

    int nodeOf(int node, int what) {
        if (!in(node, 0, nodes.size() - 1)) {
            return -1;
        }
        return switch (what) {
            case 0 -> nodes.get(node).to;
            case 1 -> nodes.get(node).height;
            case 2 -> runs(node) ? 1 : 0;
            case 3 -> vacuumAt(node);
            case 4 -> readings.get(node);
            case 5 -> suspect(node);
            case 6 -> (int) trees.stream().filter(t -> t.node == node).count();
            case 7 -> nodes.get(node).member;
            case 8 -> lengthOf(node);
            default -> -1;
        };
    }

    private List<Day> daysOfYear() {
        return days.stream().filter(d -> d.year == year).toList();
    }

    private boolean dry() {
        int row = 0;
        for (Day day : daysOfYear()) {
            row = day.frost == 0 ? row + 1 : 0;
            if (row == 5) {
                return true;
            }
        }
        return false;
    }

    int treeOf(int tree, int what) {
        if (!in(tree, 0, trees.size() - 1)) {
            return -1;
        }
        return switch (what) {
            case 0 -> trees.get(tree).node;
            case 1 -> trees.get(tree).girth;
            case 2 -> holesOf(tree, year);
            case 3 -> allowed(tree);
            case 4 -> holesOf(tree, 0);
            case 5 -> gifts.stream().filter(g -> g.year == year && g.tree == tree)
                    .mapToInt(Gift::much).sum();
            case 6 -> dry() && holesOf(tree, year) > 0 ? 1 : 0;
            default -> -1;
        };
    }

    private static boolean weather(int low, int high) {
        return in(low, -30, 30) && in(high, -30, 40) && low <= high;
    }

    private static int frost(int low) {
        return low >= 0 ? 0 : low < -10 ? 10 : -low;
    }

    private static int thaw(int high) {
        return high <= 0 ? 0 : high > 10 ? 10 : high;
    }

    int day(int low, int high) {
        if (!weather(low, high) || daysOfYear().size() == 99) {
            return -1;
        }
        int gave = 0;
        for (Hole hole : holes) {
            if (hole.year == year && !dry()) {
                int node = trees.get(hole.tree).node;
                int much = frost(low) * thaw(high) * (100 + vacuumAt(node)) / 100;
                gifts.add(new Gift(year, hole.tree, much, runs(node)));
                gave += much;
                tank += runs(node) ? much : 0;
            }
        }
        spilt += Math.max(0, tank - 20000);
        tank = Math.min(tank, 20000);
        days.add(new Day(year, frost(low), thaw(high), gave));
        return daysOfYear().size();
    }

    private void emptyPan() {
        parts = 0;
        sugar = BigInteger.ZERO;
        minutes = 0;
    }

    int year() {
        if (year == 20) {
            return -1;
        }
        year++;
        tank = 0;
        emptyPan();
        return year;
    }

    int foretold(int low, int high, int what) {
        if (!weather(low, high) || !in(what, 0, 1)) {
            return -1;
        }
        List<Day> like = days.stream()
                .filter(d -> d.frost == frost(low) && d.thaw == thaw(high)).toList();
        if (like.isEmpty()) {
            return -1;
        }
        BigInteger upper = BigInteger.valueOf(like.stream().mapToInt(Day::gave).sum());
        BigInteger lower = BigInteger.valueOf(like.size());
        return (what == 0 ? upper : lower).divide(upper.gcd(lower)).intValue();
    }

    int let(int much) {
        if (!in(much, 1, 5000) || much > tank || parts + much > 5000) {
            return -1;
        }
        tank -= much;
        parts += much;
        sugar = sugar.add(BigInteger.valueOf(20000).multiply(BigInteger.valueOf(much)));
        return parts;
    }

    int dump() {
        int gone = parts;
        emptyPan();
        return gone;
    }

    int wood(int much) {
        if (!in(much, 0, 10000) || wood + much > 1000000) {
            return -1;
        }
        wood += much;
        return wood;
    }

    private int strength() {
        return parts == 0 ? 0 : sugar.divide(BigInteger.valueOf(parts * 1000L)).intValue();
    }

    private boolean holds(Trial trial, int value) {
        return switch (trial.sign) {
            case "<" -> value < trial.number;
            case ">" -> value > trial.number;
            default -> value == trial.number;
        };
    }

    private boolean holdsInPan(Trial trial) {
        return switch (trial.thing) {
            case "strength" -> holds(trial, strength());
            case "parts" -> holds(trial, parts);
            case "heat" -> holds(trial, heat);
            case "minutes" -> holds(trial, minutes);
            case "day" -> holds(trial, daysOfYear().size());
            default -> false;
        };
    }

    private void minute() {
        Statement acts = rules.stream().filter(s -> !s.deed.equals("grade")
                && s.trials.stream().allMatch(this::holdsInPan)).findFirst().orElse(null);
        if (acts != null && acts.deed.equals("heat")) {
            heat = acts.value;
        }
        if (acts != null && acts.deed.equals("draw") && strength() >= 660 && strength() < 900
                && batches.size() < 60) {
            batches.add(new Drawn(parts, strength(), daysOfYear().size(), year,
                    new int[] {-1, -1}, new boolean[1]));
            emptyPan();
            heat = 0;
            return;
        }
        if (wood >= heat) {
            wood -= heat;
            parts = Math.max(1, parts - 4 * heat);
        }
        minutes++;
    }

    int boil(int n) {
        if (!in(n, 0, 300)) {
            return -1;
        }
        for (int gone = 0; gone < n; gone++) {
            if (parts == 0) {
                return gone;
            }
            minute();
        }
        return n;
    }

    int pan(int what) {
        return switch (what) {
            case 0 -> parts;
            case 1 -> strength();
            case 2 -> heat;
            case 3 -> minutes;
            case 4 -> strength() >= 900 ? 1 : 0;
            case 5 -> sugar.divide(BigInteger.valueOf(1000)).intValue();
            default -> -1;
        };
    }

    boolean look(int batch, int which, int value) {
        if (!in(batch, 0, batches.size() - 1) || !in(which, 0, 1) || !in(value, 0, 100)) {
            return false;
        }
        Drawn drawn = batches.get(batch);
        if (drawn.looks[which] >= 0 || drawn.sold[0]) {
            return false;
        }
        drawn.looks[which] = value;
        return true;
    }

    private boolean holdsOf(Drawn drawn, int look, Trial trial) {
        return switch (trial.thing) {
            case "strength" -> holds(trial, drawn.strength);
            case "parts" -> holds(trial, drawn.parts);
            case "look" -> holds(trial, look);
            case "day" -> holds(trial, drawn.day);
            default -> false;
        };
    }

    private int grade(Drawn drawn, int look) {
        return rules.stream().filter(s -> s.deed.equals("grade")
                && s.trials.stream().allMatch(t -> holdsOf(drawn, look, t)))
                .mapToInt(Statement::value).findFirst().orElse(4);
    }

    private int grade(Drawn drawn) {
        if (drawn.looks[0] < 0 || drawn.looks[1] < 0) {
            return -1;
        }
        return Math.max(grade(drawn, drawn.looks[0]), grade(drawn, drawn.looks[1]));
    }

    int batch(int batch, int what) {
        if (!in(batch, 0, batches.size() - 1)) {
            return -1;
        }
        Drawn drawn = batches.get(batch);
        return switch (what) {
            case 0 -> drawn.parts;
            case 1 -> drawn.strength;
            case 2 -> drawn.day;
            case 3 -> drawn.year;
            case 4 -> grade(drawn);
            case 5 -> drawn.sold[0] ? 1 : 0;
            case 6 -> drawn.looks[0];
            case 7 -> drawn.looks[1];
            default -> -1;
        };
    }

    private int cameOf(int member) {
        return gifts.stream().filter(g -> g.came && g.year == year
                && nodes.get(trees.get(g.tree).node).member == member).mapToInt(Gift::much).sum();
    }

    int sell(int grade, int pool) {
        List<Drawn> sold = batches.stream().filter(b -> !b.sold[0] && grade(b) == grade).toList();
        int[] came = new int[10];
        long all = 0;
        for (int member = 0; member < 10; member++) {
            came[member] = cameOf(member);
            all += came[member];
        }
        if (!in(grade, 0, 4) || !in(pool, 0, 1000000) || sold.isEmpty() || all == 0) {
            return -1;
        }
        sold.forEach(b -> b.sold[0] = true);
        long total = all;
        List<Integer> members = new ArrayList<>();
        int rest = pool;
        for (int member = 0; member < 10; member++) {
            int whole = (int) ((long) pool * came[member] / total);
            coins[member] += whole;
            rest -= whole;
            members.add(member);
        }
        members.sort(Comparator.comparingLong(m -> -((long) pool * came[m] % total)));
        for (int i = 0; i < rest; i++) {
            coins[members.get(i)]++;
        }
        return sold.size();
    }

    int member(int member, int what) {
        if (!in(member, 0, 9) || !in(what, 0, 1)) {
            return -1;
        }
        return what == 0 ? cameOf(member) : coins[member];
    }

    int feed(int... numbers) {
        if (tape.length() > 580) {
            return -1;
        }
        for (int number : numbers) {
            for (int i = 3; i >= 0; i--) {
                tape.append((char) (number >> 8 * i & 255));
            }
        }
        return tape.length();
    }

    /** A sign or an odd byte is a token by itself. */
    private static final Pattern TOKEN = Pattern.compile("[a-z]+|[0-9]+|[^ \n]", Pattern.DOTALL);

    int rules(int n) {
        if (n < 0 || n > tape.length()) {
            return -2;
        }
        String text = tape.substring(0, n);
        tape.setLength(0);
        List<Statement> read = new ArrayList<>();
        List<Trial> trials = new ArrayList<>();
        String state = "start";
        String thing = "";
        String sign = "";
        String deed = "";
        int value = 0;
        Matcher token = TOKEN.matcher(text);
        while (token.find()) {
            String now = token.group();
            String next = next(state, now, deed, read.size(), trials.size());
            if (next == null) {
                fault = token.start();
                return -1;
            }
            switch (state) {
                case "start" -> deed = now.equals("grade") ? "grade" : "";
                case "grade", "heat" -> value = Integer.parseInt(now);
                case "test" -> thing = now;
                case "sign" -> sign = now;
                case "number" -> trials.add(new Trial(thing, sign, Integer.parseInt(now)));
                case "then" -> deed = now;
                default -> { }
            }
            if (now.equals(";")) {
                read.add(new Statement(deed, value, trials));
                trials = new ArrayList<>();
            }
            state = next;
        }
        if (!state.equals("start")) {
            fault = n;
            return -1;
        }
        fault = -1;
        rules = read;
        return read.size();
    }

    private static String next(String state, String token, String deed, int statements, int tests) {
        boolean number = token.matches("[0-9]{1,4}");
        return switch (state) {
            case "start" -> statements == 16 ? null
                    : token.equals("in") ? "pan" : token.equals("grade") ? "grade" : null;
            case "pan" -> token.equals("pan") ? "if" : null;
            case "grade" -> number && Integer.parseInt(token) <= 4 ? "if" : null;
            case "if" -> token.equals("if") ? "test" : null;
            case "test" -> tests < 3 && token.matches("strength|parts|heat|minutes|look|day")
                    ? "sign" : null;
            case "sign" -> token.matches("[<>=]") ? "number" : null;
            case "number" -> number ? "tested" : null;
            case "tested" -> token.equals("and") ? "test"
                    : deed.equals("grade") ? (token.equals(";") ? "start" : null)
                    : token.equals("then") ? "then" : null;
            case "then" -> token.equals("draw") ? "done" : token.equals("heat") ? "heat" : null;
            case "heat" -> number && Integer.parseInt(token) <= 9 ? "done" : null;
            default -> token.equals(";") ? "start" : null;
        };
    }

    int fault() {
        return fault;
    }

    int count(int what) {
        return switch (what) {
            case 0 -> year;
            case 1 -> daysOfYear().size();
            case 2 -> nodes.size();
            case 3 -> trees.size();
            case 4 -> holes.size();
            case 5 -> tank;
            case 6 -> spilt;
            case 7 -> gifts.stream().filter(g -> !g.came).mapToInt(Gift::much).sum();
            case 8 -> wood;
            case 9 -> batches.size();
            case 10 -> rules.size();
            case 11 -> tape.length();
            case 12 -> gifts.stream().filter(Gift::came).mapToInt(Gift::much).sum();
            default -> -1;
        };
    }
}
