import java.util.Arrays;

/**
 * A sugar bush, from the taps to the members' coins. What every call answers is promised in the
 * project's document, by number; words such as NODE, TAP or BATCH are used here as they are there.
 *
 * <p>All rows are made with the object and used again, so that no call makes anything.
 */
public final class MapleLines {
    public static final int NONE = -1;

    private static final int HOUSE = 0;
    private static final int MOST_NODES = 40;
    private static final int MOST_VACUUM = 100;
    private static final int MOST_TREES = 60;
    private static final int MOST_HOLES = 300;
    private static final int MEMBERS = 10;
    private static final int LAST_YEAR = 20;
    private static final int LAST_DAY = 99;
    private static final int MOST_DEGREES = 10;

    private static final int MOST_IN_PAN = 5000;
    private static final int MOST_BATCHES = 60;
    private static final int LOOKS = 2;
    private static final int MOST_LOOK = 100;
    private static final int WORST_GRADE = 4;
    private static final int MOST_COINS = 1000000;

    private static final int MOST_STATEMENTS = 16;
    private static final int MOST_TESTS = 3;
    private static final int MOST_HEAT = 9;
    private static final int MOST_NUMBER = 9999;

    // The words of the RULES, as codes. The first six are what TESTS look at; HEAT, DRAW and GRADE
    // also name what a statement does.
    private static final int STRENGTH = 0;
    private static final int PARTS = 1;
    private static final int HEAT = 2;
    private static final int MINUTES = 3;
    private static final int LOOK = 4;
    private static final int DAY = 5;
    private static final int THINGS = 6;
    private static final int IN = 6;
    private static final int PAN = 7;
    private static final int IF = 8;
    private static final int AND = 9;
    private static final int THEN = 10;
    private static final int DRAW = 11;
    private static final int GRADE = 12;
    private static final int WORDS = 13;

    private final Tubes tubes = new Tubes();
    private final Grove grove = new Grove();
    private final Season season = new Season();
    private final Past past = new Past();
    private final Tank tank = new Tank();
    private final Pan pan = new Pan();
    private final Cellar cellar = new Cellar();
    private final Cooperative cooperative = new Cooperative();
    private final Tape tape = new Tape();
    private final RuleReader reader = new RuleReader(tape);
    private final int[] facts = new int[THINGS];
    private RuleBook book = new RuleBook();
    private RuleBook spareBook = new RuleBook();
    private int faultPlace = NONE;

    public MapleLines() {
    }

    public int node(int to, int length, int height, int member) {
        boolean asTold = tubes.has(to) && isWithin(length, 1, 100)
                && isWithin(height, 0, 500) && isMember(member);
        return asTold ? tubes.add(to, length, height, member) : NONE;
    }

    public int tree(int node, int girth) {
        boolean asTold = tubes.hasTube(node) && isWithin(girth, 30, 400);
        return asTold ? grove.add(node, girth) : NONE;
    }

    public int tap(int tree, int angle) {
        if (!grove.has(tree) || !isWithin(angle, 0, 359)) {
            return -2;
        }
        if (grove.tapsOf(tree, season.year) >= grove.tapsAllowed(tree)) {
            return -3;
        }
        if (grove.isTooNear(tree, angle, season.year)) {
            return -4;
        }
        return grove.drill(tree, angle, season.year) ? grove.holesOf(tree) : -5;
    }

    public boolean leak(int node, int much) {
        if (!tubes.hasTube(node) || !isWithin(much, 0, 20)) {
            return false;
        }
        tubes.setLeak(node, much);
        return true;
    }

    public boolean pump(int vacuum) {
        if (!isWithin(vacuum, 0, MOST_VACUUM)) {
            return false;
        }
        tubes.setHouseVacuum(vacuum);
        return true;
    }

    public boolean gauge(int node, int reading) {
        if (!tubes.hasTube(node) || !(reading == NONE || isWithin(reading, 0, MOST_VACUUM))) {
            return false;
        }
        tubes.setReading(node, reading);
        return true;
    }

    public int nodeOf(int node, int what) {
        if (!tubes.has(node)) {
            return NONE;
        }
        return what == 6 ? grove.treesAt(node) : tubes.tell(node, what);
    }

    public int treeOf(int tree, int what) {
        if (!grove.has(tree)) {
            return NONE;
        }
        switch (what) {
            case 0: return grove.nodeOfTree(tree);
            case 1: return grove.girthOf(tree);
            case 2: return grove.tapsOf(tree, season.year);
            case 3: return grove.tapsAllowed(tree);
            case 4: return grove.holesOf(tree);
            case 5: return grove.gaveThisYear(tree);
            case 6: return season.dry && grove.tapsOf(tree, season.year) > 0 ? 1 : 0;
            default: return NONE;
        }
    }

    public int day(int low, int high) {
        if (!isWeather(low, high) || season.day >= LAST_DAY) {
            return NONE;
        }
        season.passDay(frostOf(low) > 0);
        past.keep(low, high, season.dry ? 0 : gatherSap(frostOf(low) * thawOf(high)));
        return season.day;
    }

    public int year() {
        if (season.year >= LAST_YEAR) {
            return NONE;
        }
        season.beginYear();
        grove.forgetYear();
        cooperative.forgetYear();
        tank.drain();
        pan.empty();
        return season.year;
    }

    public int foretold(int low, int high, int what) {
        if (!isWeather(low, high) || !isWithin(what, 0, 1)) {
            return NONE;
        }
        return what == 0 ? past.meanUpper(low, high) : past.meanLower(low, high);
    }

    public int let(int much) {
        boolean fits = isWithin(much, 1, MOST_IN_PAN) && much <= MOST_IN_PAN - pan.parts;
        if (!fits || !tank.takeOut(much)) {
            return NONE;
        }
        pan.fill(much);
        return pan.parts;
    }

    public int dump() {
        int gone = pan.parts;
        pan.empty();
        return gone;
    }

    public int wood(int much) {
        return isWithin(much, 0, 10000) ? pan.stack(much) : NONE;
    }

    public int boil(int n) {
        if (!isWithin(n, 0, 300)) {
            return NONE;
        }
        int gone = 0;
        while (gone < n && pan.parts > 0) {
            passMinute();
            gone++;
        }
        return gone;
    }

    public int pan(int what) {
        return pan.tell(what);
    }

    public boolean look(int batch, int which, int value) {
        boolean asTold = cellar.has(batch) && isWithin(which, 0, LOOKS - 1)
                && isWithin(value, 0, MOST_LOOK);
        return asTold && cellar.takeLook(batch, which, value);
    }

    public int batch(int batch, int what) {
        if (!cellar.has(batch)) {
            return NONE;
        }
        return what == 4 ? gradeOf(batch) : cellar.tell(batch, what);
    }

    public int sell(int grade, int coins) {
        if (!isWithin(grade, 0, WORST_GRADE) || !isWithin(coins, 0, MOST_COINS)) {
            return NONE;
        }
        if (cooperative.cameTogether() == 0) {
            return NONE;
        }
        int sold = sellAllOf(grade);
        if (sold == 0) {
            return NONE;
        }
        cooperative.share(coins);
        return sold;
    }

    public int member(int member, int what) {
        return isMember(member) ? cooperative.tell(member, what) : NONE;
    }

    public int feed(int a, int b, int c, int d, int e) {
        if (!tape.hasRoomFor(20)) {
            return NONE;
        }
        tape.append(a);
        tape.append(b);
        tape.append(c);
        tape.append(d);
        tape.append(e);
        return tape.size;
    }

    public int rules(int n) {
        if (!isWithin(n, 0, tape.size)) {
            return -2;
        }
        faultPlace = reader.read(n, spareBook) ? NONE : reader.place();
        tape.clear();
        if (faultPlace != NONE) {
            return NONE;
        }
        RuleBook old = book;
        book = spareBook;
        spareBook = old;
        return book.size;
    }

    public int fault() {
        return faultPlace;
    }

    public int count(int what) {
        switch (what) {
            case 0: return season.year;
            case 1: return season.day;
            case 2: return tubes.size;
            case 3: return grove.trees;
            case 4: return grove.holes;
            case 5: return tank.parts;
            case 6: return tank.spilt;
            case 7: return tank.left;
            case 8: return pan.wood;
            case 9: return cellar.size;
            case 10: return book.size;
            case 11: return tape.size;
            case 12: return tank.came;
            default: return NONE;
        }
    }

    private static boolean isWithin(int value, int least, int most) {
        return value >= least && value <= most;
    }

    private static boolean isMember(int member) {
        return isWithin(member, 0, MEMBERS - 1);
    }

    private static boolean isWeather(int low, int high) {
        return isWithin(low, -30, 30) && isWithin(high, -30, 40) && high >= low;
    }

    private static int frostOf(int low) {
        return thawOf(-low);
    }

    private static int thawOf(int high) {
        return Math.max(0, Math.min(MOST_DEGREES, high));
    }

    /** Lets every TAP give and answers what all gave together, LEFT or not. */
    private int gatherSap(int push) {
        int together = 0;
        for (int hole = 0; hole < grove.holes; hole++) {
            if (grove.yearOfHole(hole) == season.year) {
                together += gatherFrom(grove.treeOfHole(hole), push);
            }
        }
        return together;
    }

    private int gatherFrom(int tree, int push) {
        int node = grove.nodeOfTree(tree);
        int given = push * (100 + tubes.vacuumAt(node)) / 100;
        grove.give(tree, given);
        if (tubes.runsHome(node)) {
            tank.takeIn(given);
            cooperative.credit(tubes.memberAt(node), given);
        } else {
            tank.leave(given);
        }
        return given;
    }

    private void passMinute() {
        gatherPanFacts();
        int statement = book.firstThatHolds(false, facts);
        int deed = book.deedOf(statement);
        if (deed == DRAW && drawBatch()) {
            return;
        }
        if (deed == HEAT) {
            pan.heat = book.valueOf(statement);
        }
        pan.boilMinute();
    }

    private boolean drawBatch() {
        int strength = pan.strength();
        if (strength < 660 || pan.isBurnt()
                || !cellar.add(pan.parts, strength, season.day, season.year)) {
            return false;
        }
        pan.empty();
        pan.heat = 0;
        return true;
    }

    private void gatherPanFacts() {
        facts[STRENGTH] = pan.strength();
        facts[PARTS] = pan.parts;
        facts[HEAT] = pan.heat;
        facts[MINUTES] = pan.minutes;
        facts[LOOK] = NONE;
        facts[DAY] = season.day;
    }

    private int gradeOf(int batch) {
        int first = cellar.lookAt(batch, 0);
        int second = cellar.lookAt(batch, 1);
        if (first == NONE || second == NONE) {
            return NONE;
        }
        return Math.max(gradeByLook(batch, first), gradeByLook(batch, second));
    }

    private int gradeByLook(int batch, int look) {
        facts[STRENGTH] = cellar.strengthOf(batch);
        facts[PARTS] = cellar.partsOf(batch);
        facts[HEAT] = NONE;
        facts[MINUTES] = NONE;
        facts[LOOK] = look;
        facts[DAY] = cellar.dayOf(batch);
        int statement = book.firstThatHolds(true, facts);
        return statement == NONE ? WORST_GRADE : book.valueOf(statement);
    }

    private int sellAllOf(int grade) {
        int sold = 0;
        for (int batch = 0; batch < cellar.size; batch++) {
            if (!cellar.isSold(batch) && gradeOf(batch) == grade) {
                cellar.markSold(batch);
                sold++;
            }
        }
        return sold;
    }

    /** The NODES. Each runs to one that was there before it, so every way ends at the house. */
    private static final class Tubes {
        private final int[] to = new int[MOST_NODES];
        private final int[] height = new int[MOST_NODES];
        private final int[] member = new int[MOST_NODES];
        private final int[] lengthHome = new int[MOST_NODES];
        private final boolean[] runs = new boolean[MOST_NODES];
        private final int[] leak = new int[MOST_NODES];
        private final int[] vacuum = new int[MOST_NODES];
        private final int[] reading = new int[MOST_NODES];
        private int size = 1;

        Tubes() {
            to[HOUSE] = NONE;
            member[HOUSE] = NONE;
            reading[HOUSE] = NONE;
            runs[HOUSE] = true;
        }

        boolean has(int node) {
            return node >= 0 && node < size;
        }

        boolean hasTube(int node) {
            return node != HOUSE && has(node);
        }

        int add(int next, int tubeLength, int high, int owner) {
            if (size >= MOST_NODES || !has(next)) {
                return NONE;
            }
            int node = size;
            size++;
            to[node] = next;
            height[node] = high;
            member[node] = owner;
            lengthHome[node] = lengthHome[next] + tubeLength;
            runs[node] = runs[next] && high > height[next];
            vacuum[node] = vacuum[next];
            reading[node] = NONE;
            return node;
        }

        void setLeak(int node, int much) {
            if (hasTube(node)) {
                leak[node] = much;
                settleVacuum();
            }
        }

        void setHouseVacuum(int much) {
            vacuum[HOUSE] = much;
            settleVacuum();
        }

        /** One pass is enough: the NODE that another runs to has the lesser number. */
        private void settleVacuum() {
            for (int node = 1; node < size; node++) {
                vacuum[node] = Math.max(0, vacuumAt(to[node]) - leak[node]);
            }
        }

        void setReading(int node, int value) {
            if (hasTube(node)) {
                reading[node] = value;
            }
        }

        int vacuumAt(int node) {
            return has(node) ? vacuum[node] : 0;
        }

        boolean runsHome(int node) {
            return has(node) && runs[node];
        }

        int memberAt(int node) {
            return has(node) ? member[node] : NONE;
        }

        int tell(int node, int what) {
            if (!has(node)) {
                return NONE;
            }
            switch (what) {
                case 0: return to[node];
                case 1: return height[node];
                case 2: return runs[node] ? 1 : 0;
                case 3: return vacuum[node];
                case 4: return reading[node];
                case 5: return suspectBy(node);
                case 7: return member[node];
                case 8: return lengthHome[node];
                default: return NONE;
            }
        }

        private int suspectBy(int node) {
            if (!hasTube(node) || reading[node] == NONE) {
                return 0;
            }
            return Math.max(0, readingAhead(node) - reading[node]);
        }

        private int readingAhead(int node) {
            int ahead = to[node];
            for (int steps = 0; steps < MOST_NODES && hasTube(ahead); steps++) {
                if (reading[ahead] != NONE) {
                    return reading[ahead];
                }
                ahead = to[ahead];
            }
            return vacuum[HOUSE];
        }
    }

    /** The TREES and all HOLES ever made in them. */
    private static final class Grove {
        private static final int LEAST_APART = 40;
        private static final int YEARS_TO_HEAL = 3;

        private final int[] node = new int[MOST_TREES];
        private final int[] girth = new int[MOST_TREES];
        private final int[] gave = new int[MOST_TREES];
        private final int[] holeTree = new int[MOST_HOLES];
        private final int[] holeAngle = new int[MOST_HOLES];
        private final int[] holeYear = new int[MOST_HOLES];
        private int trees;
        private int holes;

        boolean has(int tree) {
            return tree >= 0 && tree < trees;
        }

        private boolean hasHole(int hole) {
            return hole >= 0 && hole < holes;
        }

        int add(int where, int thick) {
            if (trees >= MOST_TREES) {
                return NONE;
            }
            int tree = trees;
            trees++;
            node[tree] = where;
            girth[tree] = thick;
            return tree;
        }

        int treesAt(int where) {
            int found = 0;
            for (int tree = 0; tree < trees; tree++) {
                if (node[tree] == where) {
                    found++;
                }
            }
            return found;
        }

        int nodeOfTree(int tree) {
            return has(tree) ? node[tree] : NONE;
        }

        int girthOf(int tree) {
            return has(tree) ? girth[tree] : NONE;
        }

        int gaveThisYear(int tree) {
            return has(tree) ? gave[tree] : NONE;
        }

        void give(int tree, int much) {
            if (has(tree)) {
                gave[tree] += much;
            }
        }

        void forgetYear() {
            Arrays.fill(gave, 0);
        }

        int tapsAllowed(int tree) {
            int thick = girthOf(tree);
            if (thick < 80) {
                return 0;
            }
            if (thick < 150) {
                return 1;
            }
            return thick < 200 ? 2 : 3;
        }

        int tapsOf(int tree, int year) {
            int found = 0;
            for (int hole = 0; hole < holes; hole++) {
                if (holeTree[hole] == tree && holeYear[hole] == year) {
                    found++;
                }
            }
            return found;
        }

        int holesOf(int tree) {
            int found = 0;
            for (int hole = 0; hole < holes; hole++) {
                if (holeTree[hole] == tree) {
                    found++;
                }
            }
            return found;
        }

        boolean isTooNear(int tree, int angle, int year) {
            for (int hole = 0; hole < holes; hole++) {
                if (holeTree[hole] == tree && holeYear[hole] >= year - YEARS_TO_HEAL
                        && degreesApart(holeAngle[hole], angle) < LEAST_APART) {
                    return true;
                }
            }
            return false;
        }

        private static int degreesApart(int one, int other) {
            int apart = Math.abs(one - other);
            return Math.min(apart, 360 - apart);
        }

        boolean drill(int tree, int angle, int year) {
            if (holes >= MOST_HOLES) {
                return false;
            }
            holeTree[holes] = tree;
            holeAngle[holes] = angle;
            holeYear[holes] = year;
            holes++;
            return true;
        }

        int treeOfHole(int hole) {
            return hasHole(hole) ? holeTree[hole] : NONE;
        }

        int yearOfHole(int hole) {
            return hasHole(hole) ? holeYear[hole] : NONE;
        }
    }

    /** The YEAR, its DAY, and whether its TAPS are DRY. */
    private static final class Season {
        private static final int DRYING_DAYS = 5;

        private int year;
        private int day;
        private int daysWithoutFrost;
        private boolean dry;

        void passDay(boolean frosty) {
            day++;
            daysWithoutFrost = frosty ? 0 : daysWithoutFrost + 1;
            if (daysWithoutFrost >= DRYING_DAYS) {
                dry = true;
            }
        }

        void beginYear() {
            year++;
            day = 0;
            daysWithoutFrost = 0;
            dry = false;
        }
    }

    /** What all TAPS gave on DAYS gone by, added up for each FROST and THAW. */
    private static final class Past {
        private static final int STEPS = MOST_DEGREES + 1;

        private final int[] given = new int[STEPS * STEPS];
        private final int[] days = new int[STEPS * STEPS];

        private static int placeOf(int low, int high) {
            return frostOf(low) * STEPS + thawOf(high);
        }

        void keep(int low, int high, int much) {
            int place = placeOf(low, high);
            given[place] += much;
            days[place]++;
        }

        int meanUpper(int low, int high) {
            int place = placeOf(low, high);
            return inLowestTerms(given[place], place);
        }

        int meanLower(int low, int high) {
            int place = placeOf(low, high);
            return inLowestTerms(days[place], place);
        }

        private int inLowestTerms(int number, int place) {
            int divisor = greatestDivisor(given[place], days[place]);
            return days[place] == 0 || divisor == 0 ? NONE : number / divisor;
        }

        private static int greatestDivisor(int one, int other) {
            int greater = one;
            int lesser = other;
            // Two ints never need as many as 64 steps.
            for (int steps = 0; steps < 64 && lesser != 0; steps++) {
                int rest = greater % lesser;
                greater = lesser;
                lesser = rest;
            }
            return greater;
        }
    }

    /** The TANK, and where all sap that was ever given went. */
    private static final class Tank {
        private static final int HOLDS = 20000;

        private int parts;
        private int spilt;
        private int left;
        private int came;

        void takeIn(int much) {
            int held = Math.min(much, HOLDS - parts);
            parts += held;
            spilt += much - held;
            came += much;
        }

        void leave(int much) {
            left += much;
        }

        boolean takeOut(int much) {
            if (much > parts) {
                return false;
            }
            parts -= much;
            return true;
        }

        void drain() {
            parts = 0;
        }
    }

    /** The PAN and the WOOD beside it. */
    private static final class Pan {
        private static final int MOST_WOOD = 1000000;
        private static final int SUGAR_OF_SAP = 20000;
        private static final int BURNS_AT = 900;

        /** Thousandths of a part; a long, as it adds up with each filling and never boils off. */
        private long sugar;
        private int parts;
        private int heat;
        private int minutes;
        private int wood;

        void fill(int much) {
            parts += much;
            sugar += (long) much * SUGAR_OF_SAP;
        }

        /** HEAT is not touched: the document sets it to 0 only where a BATCH is drawn. */
        void empty() {
            parts = 0;
            sugar = 0;
            minutes = 0;
        }

        int stack(int much) {
            if (wood > MOST_WOOD - much) {
                return NONE;
            }
            wood += much;
            return wood;
        }

        int strength() {
            return parts < 1 ? 0 : (int) (sugar / parts / 1000);
        }

        boolean isBurnt() {
            return strength() >= BURNS_AT;
        }

        /** Too little WOOD stills this MINUTE alone: HEAT stays set for when more has come. */
        void boilMinute() {
            int burning = wood < heat ? 0 : heat;
            wood -= burning;
            parts -= Math.max(0, Math.min(burning * 4, parts - 1));
            minutes++;
        }

        int tell(int what) {
            switch (what) {
                case 0: return parts;
                case 1: return strength();
                case 2: return heat;
                case 3: return minutes;
                case 4: return isBurnt() ? 1 : 0;
                case 5: return (int) (sugar / 1000);
                default: return NONE;
            }
        }
    }

    /** The BATCHES, sold or not. */
    private static final class Cellar {
        private final int[] parts = new int[MOST_BATCHES];
        private final int[] strength = new int[MOST_BATCHES];
        private final int[] drawnOn = new int[MOST_BATCHES];
        private final int[] drawnIn = new int[MOST_BATCHES];
        private final boolean[] sold = new boolean[MOST_BATCHES];
        private final int[][] looks = new int[LOOKS][MOST_BATCHES];
        private int size;

        boolean has(int batch) {
            return batch >= 0 && batch < size;
        }

        boolean add(int much, int strong, int day, int year) {
            if (size >= MOST_BATCHES) {
                return false;
            }
            parts[size] = much;
            strength[size] = strong;
            drawnOn[size] = day;
            drawnIn[size] = year;
            for (int which = 0; which < LOOKS; which++) {
                looks[which][size] = NONE;
            }
            size++;
            return true;
        }

        /** A BATCH that is sold has both LOOKS, so that it needs no test of its own. */
        boolean takeLook(int batch, int which, int value) {
            if (!has(batch) || !isWithin(which, 0, LOOKS - 1) || looks[which][batch] != NONE) {
                return false;
            }
            looks[which][batch] = value;
            return true;
        }

        int lookAt(int batch, int which) {
            return has(batch) && isWithin(which, 0, LOOKS - 1) ? looks[which][batch] : NONE;
        }

        int partsOf(int batch) {
            return has(batch) ? parts[batch] : NONE;
        }

        int strengthOf(int batch) {
            return has(batch) ? strength[batch] : NONE;
        }

        int dayOf(int batch) {
            return has(batch) ? drawnOn[batch] : NONE;
        }

        boolean isSold(int batch) {
            return has(batch) && sold[batch];
        }

        void markSold(int batch) {
            if (has(batch)) {
                sold[batch] = true;
            }
        }

        int tell(int batch, int what) {
            if (!has(batch)) {
                return NONE;
            }
            switch (what) {
                case 0: return parts[batch];
                case 1: return strength[batch];
                case 2: return drawnOn[batch];
                case 3: return drawnIn[batch];
                case 5: return sold[batch] ? 1 : 0;
                case 6: return looks[0][batch];
                case 7: return looks[1][batch];
                default: return NONE;
            }
        }
    }

    /** The MEMBERS: what came of theirs this YEAR, and their coins. */
    private static final class Cooperative {
        private final int[] came = new int[MEMBERS];
        private final int[] coins = new int[MEMBERS];
        private final long[] remainder = new long[MEMBERS];

        void credit(int member, int much) {
            if (isMember(member)) {
                came[member] += much;
            }
        }

        void forgetYear() {
            Arrays.fill(came, 0);
        }

        int cameTogether() {
            int together = 0;
            for (int member = 0; member < MEMBERS; member++) {
                together += came[member];
            }
            return together;
        }

        /** Whole coins first; fewer are over than MEMBERS have a remainder, so none gets two. */
        void share(int pool) {
            int together = cameTogether();
            if (together <= 0) {
                return;
            }
            int over = pool;
            for (int member = 0; member < MEMBERS; member++) {
                long due = (long) pool * came[member];
                int whole = (int) (due / together);
                coins[member] += whole;
                over -= whole;
                remainder[member] = due % together;
            }
            for (int turn = 0; turn < MEMBERS && over > 0; turn++) {
                int next = greatestRemainder();
                coins[next]++;
                remainder[next] = 0;
                over--;
            }
        }

        private int greatestRemainder() {
            int greatest = 0;
            for (int member = 1; member < MEMBERS; member++) {
                if (remainder[member] > remainder[greatest]) {
                    greatest = member;
                }
            }
            return greatest;
        }

        int tell(int member, int what) {
            if (!isMember(member)) {
                return NONE;
            }
            switch (what) {
                case 0: return came[member];
                case 1: return coins[member];
                default: return NONE;
            }
        }
    }

    /** The bytes that were fed and not yet made RULES, and the tokens of a text among them. */
    private static final class Tape {
        private static final int MOST_BYTES = 600;
        private static final int MOST_DIGITS = 4;
        private static final int WORD = 0;
        private static final int DIGITS = 1;
        private static final int SIGN = 2;
        private static final int BLANK = 3;
        /** The code of the NUMBER 0; it stands above the codes of all words and signs. */
        private static final int NUMBERS = 1000;

        private final byte[] bytes = new byte[MOST_BYTES];
        private final int[] tokenStart = new int[MOST_BYTES];
        private final int[] tokenCode = new int[MOST_BYTES];
        private int size;
        private int tokens;
        private int textLength;

        boolean hasRoomFor(int more) {
            return size <= MOST_BYTES - more;
        }

        void append(int fourBytes) {
            if (!hasRoomFor(4)) {
                return;
            }
            for (int shift = 24; shift >= 0; shift -= 8) {
                bytes[size] = (byte) (fourBytes >>> shift);
                size++;
            }
        }

        void clear() {
            size = 0;
        }

        void splitFirst(int length) {
            textLength = Math.max(0, Math.min(length, size));
            tokens = 0;
            for (int place = 0; place < textLength; place++) {
                if (beginsToken(place)) {
                    tokenStart[tokens] = place;
                    tokenCode[tokens] = codeAt(place);
                    tokens++;
                }
            }
        }

        /** Signs are tokens of one byte, and so is a byte that begins none: nothing takes it. */
        private boolean beginsToken(int place) {
            int kind = kindAt(place);
            return kind == SIGN || kind != BLANK && (place == 0 || kindAt(place - 1) != kind);
        }

        private int kindAt(int place) {
            int character = place >= 0 && place < textLength ? bytes[place] : ' ';
            if (character == 32 || character == 10) {
                return BLANK;
            }
            if (character >= 'a' && character <= 'z') {
                return WORD;
            }
            return character >= '0' && character <= '9' ? DIGITS : SIGN;
        }

        private int codeAt(int start) {
            switch (kindAt(start)) {
                case WORD: return codeOfWord(start);
                case DIGITS: return codeOfNumber(start);
                default: return codeOfSign(start);
            }
        }

        private int codeOfWord(int start) {
            for (int code = 0; code < WORDS; code++) {
                if (isSpeltAt(start, wordOf(code))) {
                    return code;
                }
            }
            return NONE;
        }

        private static String wordOf(int code) {
            switch (code) {
                case STRENGTH: return "strength";
                case PARTS: return "parts";
                case HEAT: return "heat";
                case MINUTES: return "minutes";
                case LOOK: return "look";
                case DAY: return "day";
                case IN: return "in";
                case PAN: return "pan";
                case IF: return "if";
                case AND: return "and";
                case THEN: return "then";
                case DRAW: return "draw";
                default: return "grade";
            }
        }

        private boolean isSpeltAt(int start, String word) {
            int end = start + word.length();
            if (start < 0 || end > textLength || kindAt(end) == WORD) {
                return false;
            }
            for (int i = 0; i < word.length(); i++) {
                if (bytes[start + i] != word.charAt(i)) {
                    return false;
                }
            }
            return true;
        }

        private int codeOfNumber(int start) {
            int number = 0;
            for (int place = start; place < textLength && kindAt(place) == DIGITS; place++) {
                if (place >= start + MOST_DIGITS) {
                    return NONE;
                }
                number = number * 10 + bytes[place] - '0';
            }
            return NUMBERS + number;
        }

        private int codeOfSign(int start) {
            int sign = start >= 0 && start < textLength ? bytes[start] : NONE;
            return sign == '<' || sign == '>' || sign == '=' || sign == ';' ? sign : NONE;
        }

        boolean hasToken(int token) {
            return token >= 0 && token < tokens;
        }

        int codeOf(int token) {
            return token >= 0 && token < tokens ? tokenCode[token] : NONE;
        }

        int placeOf(int token) {
            return hasToken(token) ? tokenStart[token] : textLength;
        }
    }

    /** RULES: statements, each with its deed, that deed's value, and its TESTS. */
    private static final class RuleBook {
        private final int[] deed = new int[MOST_STATEMENTS];
        private final int[] value = new int[MOST_STATEMENTS];
        private final int[] tests = new int[MOST_STATEMENTS];
        private final int[] thing = new int[MOST_STATEMENTS * MOST_TESTS];
        private final int[] sign = new int[MOST_STATEMENTS * MOST_TESTS];
        private final int[] number = new int[MOST_STATEMENTS * MOST_TESTS];
        private int size;

        void clear() {
            size = 0;
            Arrays.fill(tests, 0);
        }

        void addTest(int what, int comparison, int against) {
            if (size >= MOST_STATEMENTS || tests[size] >= MOST_TESTS) {
                return;
            }
            int place = size * MOST_TESTS + tests[size];
            thing[place] = what;
            sign[place] = comparison;
            number[place] = against;
            tests[size]++;
        }

        void setDeed(int what, int how) {
            if (size < MOST_STATEMENTS) {
                deed[size] = what;
                value[size] = how;
            }
        }

        /** Counts the statement whose TESTS and deed were told since the one ahead of it. */
        void endStatement() {
            if (size < MOST_STATEMENTS) {
                size++;
            }
        }

        int firstThatHolds(boolean grading, int[] facts) {
            for (int statement = 0; statement < size; statement++) {
                if ((deed[statement] == GRADE) == grading && allHold(statement, facts)) {
                    return statement;
                }
            }
            return NONE;
        }

        private boolean allHold(int statement, int[] facts) {
            for (int test = 0; test < tests[statement]; test++) {
                int place = statement * MOST_TESTS + test;
                int about = thing[place];
                if (about < 0 || about >= facts.length
                        || !holds(facts[about], sign[place], number[place])) {
                    return false;
                }
            }
            return true;
        }

        /** A fact that isn't there is NONE; no other fact is below 0. */
        private static boolean holds(int fact, int comparison, int against) {
            if (fact == NONE) {
                return false;
            }
            switch (comparison) {
                case '<': return fact < against;
                case '>': return fact > against;
                default: return fact == against;
            }
        }

        private boolean has(int statement) {
            return statement >= 0 && statement < size;
        }

        int deedOf(int statement) {
            return has(statement) ? deed[statement] : NONE;
        }

        int valueOf(int statement) {
            return has(statement) ? value[statement] : NONE;
        }
    }

    /**
     * Reads RULES token by token. It stops at the first token that doesn't fit, so that the FAULT
     * is always at the present token's place; behind the last token that is the text's length.
     */
    private static final class RuleReader {
        private final Tape tape;
        private int present;
        private int number;

        RuleReader(Tape source) {
            tape = source;
        }

        int place() {
            return tape.placeOf(present);
        }

        boolean read(int length, RuleBook into) {
            tape.splitFirst(length);
            present = 0;
            into.clear();
            for (int made = 0; made < MOST_STATEMENTS && tape.hasToken(present); made++) {
                if (!readStatement(into)) {
                    return false;
                }
            }
            return !tape.hasToken(present);
        }

        private boolean readStatement(RuleBook into) {
            boolean grading = take(GRADE);
            boolean headed = grading ? readDeedNumber(GRADE, WORST_GRADE, into)
                    : take(IN) && take(PAN);
            if (!headed || !take(IF) || !readTests(into)) {
                return false;
            }
            boolean done = grading || take(THEN) && readDeed(into);
            if (!done || !take(';')) {
                return false;
            }
            into.endStatement();
            return true;
        }

        private boolean readDeed(RuleBook into) {
            if (take(DRAW)) {
                into.setDeed(DRAW, 0);
                return true;
            }
            return take(HEAT) && readDeedNumber(HEAT, MOST_HEAT, into);
        }

        private boolean readDeedNumber(int deed, int most, RuleBook into) {
            if (!takeNumber(most)) {
                return false;
            }
            into.setDeed(deed, number);
            return true;
        }

        private boolean readTests(RuleBook into) {
            for (int made = 0; made < MOST_TESTS; made++) {
                if (!readTest(into)) {
                    return false;
                }
                if (!take(AND)) {
                    return true;
                }
            }
            // The last "and" is taken: a fourth TEST is at fault where it begins.
            return false;
        }

        private boolean readTest(RuleBook into) {
            int thing = tape.codeOf(present);
            if (!isWithin(thing, 0, THINGS - 1)) {
                return false;
            }
            present++;
            int sign = tape.codeOf(present);
            boolean signed = take('<') || take('>') || take('=');
            if (!signed || !takeNumber(MOST_NUMBER)) {
                return false;
            }
            into.addTest(thing, sign, number);
            return true;
        }

        private boolean take(int code) {
            if (tape.codeOf(present) != code) {
                return false;
            }
            present++;
            return true;
        }

        private boolean takeNumber(int most) {
            int found = tape.codeOf(present) - Tape.NUMBERS;
            if (!isWithin(found, 0, most)) {
                return false;
            }
            number = found;
            present++;
            return true;
        }
    }
}
