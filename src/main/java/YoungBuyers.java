import java.util.Arrays;

/**
 * Tests of shops by buyers who are too young: who is drawn, which tests are good, how far an owner
 * has gone up, how two teams share a day, and what the tests tell of letters, wards and clerks.
 *
 * <p>All rows are made with the object and used again; no call makes an object.
 */
public final class YoungBuyers {
    private static final int NOBODY = -1;
    private static final int OTHER = -2;
    private static final int STATE = -3;
    private static final int BELOW = -4;
    private static final int MISSING = -5;
    private static final int ROOM = -6;
    private static final int NONE = -9;
    private static final int FAULTY = -20;
    private static final int FINE = 0;

    private static final int LAST_DAY = 2000;
    private static final int SHOPS = 40;
    private static final int KINDS = 5;
    private static final int WARDS = 4;
    private static final int FARTHEST = 60;
    private static final int HEAVIEST = 20;
    private static final int OWNERS = 6;
    private static final int CHILDREN = 8;
    private static final int GROWN = 4;
    private static final int EARLIEST_BORN = -7000;
    private static final int LATEST_BORN = -3000;
    private static final int GUESSES = 12;
    private static final int LEAST_GUESS = 8;
    private static final int GREATEST_GUESS = 25;
    private static final int GREATEST_U = 999;
    private static final int TAPE = 80;
    private static final int RULES = 20;
    private static final int USES = 5;
    private static final int TOP_STEP = 4;
    private static final int TESTS = 100;
    private static final int HOURS = 24;
    private static final int NEAR = 1;
    private static final int ASKED = 2;
    private static final int SOLD = 4;
    private static final int ALL_BITS = 7;
    private static final int GREATEST_LEAVE = 2000;
    private static final int GREATEST_SEED = 99999;
    private static final int TABLE_WHATS = 7;
    private static final int CLERKS = 10;
    private static final int SHIFTS = 40;
    private static final int GREATEST_COST = 500;
    private static final int GREATEST_BUDGET = 20000;
    private static final int ALPHABET = 26;

    private final Weighing weighing;
    private final Shops shops;
    private final Children children;
    private final Tests tests;
    private final Rules rules;
    private final Draw latest;
    private final Draw foreseen;
    private final Fraction fraction;
    private final Tape tape;
    private final Planner planner;
    private final Table table;
    private final Clerks clerks;
    private final int[] refused;
    private final int[] costs;
    private final boolean[] lettered;
    private int lettersGiven;
    private int today;
    private int leaveNow;

    public YoungBuyers() {
        weighing = new Weighing();
        shops = weighing.shops;
        children = weighing.children;
        tests = weighing.tests;
        rules = weighing.rules;
        latest = new Draw();
        foreseen = new Draw();
        fraction = new Fraction();
        tape = new Tape();
        planner = new Planner();
        table = new Table();
        clerks = new Clerks();
        refused = new int[6];
        costs = new int[KINDS];
        Arrays.fill(costs, 20);
        lettered = new boolean[SHOPS];
        lettersGiven = 0;
        today = 0;
        leaveNow = 300;
    }

    public int days(int n) {
        if (n < 1) {
            return refuse(BELOW);
        }
        if (n > LAST_DAY - today) {
            return refuse(ROOM);
        }
        today += n;
        return today;
    }

    public int shop(int kind, int ward, int x, int y) {
        if (!isKind(kind)) {
            return refuse(OTHER);
        }
        if (!isWard(ward)) {
            return refuse(NOBODY);
        }
        if (x < 0 || y < 0) {
            return refuse(BELOW);
        }
        if (x > FARTHEST || y > FARTHEST || shops.size >= SHOPS) {
            return refuse(ROOM);
        }
        return shops.add(kind, ward, x, y, today);
    }

    public int weight(int shop, int w) {
        if (!shops.has(shop)) {
            return refuse(NOBODY);
        }
        int limit = outside(w, 1, HEAVIEST);
        if (limit != FINE) {
            return refuse(limit);
        }
        int before = shops.weights[shop];
        shops.weights[shop] = w;
        return before;
    }

    public int open(int shop, boolean on) {
        if (!shops.has(shop)) {
            return refuse(NOBODY);
        }
        if (shops.isOpen[shop] == on) {
            return 0;
        }
        shops.isOpen[shop] = on;
        return 1;
    }

    public int sell(int shop) {
        if (!shops.has(shop)) {
            return refuse(NOBODY);
        }
        if (shops.ownedSince(shop) == today) {
            return refuse(STATE);
        }
        if (shops.owners[shop] >= OWNERS) {
            return refuse(ROOM);
        }
        return shops.addOwner(shop, today);
    }

    public int child(int child, int born) {
        if (!children.has(child)) {
            return refuse(NOBODY);
        }
        int limit = outside(born, EARLIEST_BORN, LATEST_BORN);
        if (limit != FINE) {
            return refuse(limit);
        }
        return children.tell(child, born) ? 1 : 0;
    }

    public int guess(int child, int years) {
        if (!children.has(child)) {
            return refuse(NOBODY);
        }
        if (!children.isTold[child]) {
            return refuse(MISSING);
        }
        if (years < LEAST_GUESS) {
            return refuse(BELOW);
        }
        if (years > GREATEST_GUESS || children.guessed[child] >= GUESSES) {
            return refuse(ROOM);
        }
        return children.addGuess(child, years);
    }

    public int childOf(int child, int what) {
        if (!children.has(child)) {
            return refuse(NOBODY);
        }
        if (!children.isTold[child]) {
            return refuse(MISSING);
        }
        if (what != 0 && what != 1) {
            return refuse(OTHER);
        }
        return what == 0 ? children.age(child, today) : children.looks(child, today);
    }

    public int known(int child, int shop, boolean on) {
        if (!children.has(child) || !shops.has(shop)) {
            return refuse(NOBODY);
        }
        if (!children.isTold[child]) {
            return refuse(MISSING);
        }
        return children.setKnown(child, shop, on) ? 1 : 0;
    }

    public int draw(int n, int u) {
        if (shops.openOnes() == 0) {
            return refuse(STATE);
        }
        if (n < 1 || u < 0) {
            return refuse(BELOW);
        }
        if (n > SHOPS || u > GREATEST_U) {
            return refuse(ROOM);
        }
        takeLettersAway();
        latest.reckon(shops, n);
        return latest.take(u);
    }

    public int drawn(int shop, int what) {
        if (latest.size == 0) {
            return refuse(MISSING);
        }
        if (!shops.has(shop)) {
            return refuse(NOBODY);
        }
        if (what < 0 || what > 2) {
            return refuse(OTHER);
        }
        if (what == 0) {
            return latest.taken[shop] ? 1 : 0;
        }
        fraction.become(latest.partsAbove(shop), latest.partsBelow(shop));
        return (int) (what == 1 ? fraction.above : fraction.below);
    }

    public long back(int what) throws IllegalStateException, IllegalArgumentException {
        if (latest.size == 0) {
            throw new IllegalStateException("nothing was drawn");
        }
        if (what < 0 || what > 3) {
            throw new IllegalArgumentException("what is 0 .. 3");
        }
        weighBack(what >= 2);
        return what == 0 || what == 2 ? fraction.above : fraction.below;
    }

    public int feed(int n, long bytes) {
        if (n < 1) {
            return refuse(BELOW);
        }
        if (n > 8 || n > TAPE - tape.size) {
            return refuse(ROOM);
        }
        return tape.append(n, bytes);
    }

    public int rule(int use, int day) {
        if (!isUse(use)) {
            return refuse(OTHER);
        }
        if (day < today) {
            return refuse(BELOW);
        }
        if (day > LAST_DAY || rules.size >= RULES) {
            return refuse(ROOM);
        }
        int fault = tape.translate();
        tape.size = 0;
        if (fault >= 0) {
            return FAULTY - fault;
        }
        return rules.add(use, day, tape.code, tape.codeSize);
    }

    public int force(int use, int day) {
        if (!isUse(use)) {
            return refuse(OTHER);
        }
        int limit = outside(day, 0, LAST_DAY);
        if (limit != FINE) {
            return refuse(limit);
        }
        return rules.inForce(use, day);
    }

    public int test(int shop, int child, int grown, int day, int hour, int bits) {
        if (!shops.has(shop) || !children.has(child) || grown < 0 || grown >= GROWN) {
            return refuse(NOBODY);
        }
        if (bits < 0 || bits > ALL_BITS) {
            return refuse(OTHER);
        }
        if (!children.isTold[child]) {
            return refuse(MISSING);
        }
        if (!shops.isOpen[shop] || !mayBeTestedOn(shop, day)) {
            return refuse(STATE);
        }
        if (hour < 0) {
            return refuse(BELOW);
        }
        if (hour >= HOURS || tests.size >= TESTS) {
            return refuse(ROOM);
        }
        return tests.add(shop, child, day, hour, bits, today);
    }

    public int appeal(int test) {
        if (!tests.has(test)) {
            return refuse(NOBODY);
        }
        if (tests.isVoided(test)) {
            return refuse(STATE);
        }
        tests.voidedOn[test] = today;
        return 1;
    }

    public int testOf(int test, int k, int what) {
        if (!tests.has(test)) {
            return refuse(NOBODY);
        }
        if (what < 0 || what > 2) {
            return refuse(OTHER);
        }
        int limit = outside(k, 0, LAST_DAY);
        if (limit != FINE) {
            return refuse(limit);
        }
        if (what == 0) {
            return tests.countsAsOf(test, k) ? 1 : 0;
        }
        weighing.weigh(k, test + 1);
        if (what == 1) {
            return weighing.good[test] ? 1 : 0;
        }
        return weighing.ledTo[test];
    }

    public int fact(int test, int k, int letter) {
        if (!tests.has(test)) {
            return refuse(NOBODY);
        }
        if (!isFact(letter)) {
            return refuse(OTHER);
        }
        int limit = outside(k, 0, LAST_DAY);
        if (limit != FINE) {
            return refuse(limit);
        }
        if (!tests.countsAsOf(test, k)) {
            return refuse(STATE);
        }
        weighing.weigh(k, test);
        weighing.gather(test);
        return weighing.facts[letter - 'a'];
    }

    public int step(int shop, int day, int k) {
        if (!shops.has(shop)) {
            return refuse(NOBODY);
        }
        if (day < 0 || k < 0) {
            return refuse(BELOW);
        }
        if (day > LAST_DAY || k > LAST_DAY) {
            return refuse(ROOM);
        }
        if (shops.ownerOn(shop, day) < 0) {
            return refuse(STATE);
        }
        weighing.weigh(k, tests.until(day));
        return weighing.stepOf(shop, day);
    }

    public int lost() {
        weighing.weigh(today, tests.size);
        int lost = 0;
        for (int i = 0; i < shops.size; i++) {
            if (shops.isOpen[i] && weighing.stepOf(i, today) == TOP_STEP) {
                lost++;
            }
        }
        return lost;
    }

    public int leave(int v) {
        int limit = outside(v, 0, GREATEST_LEAVE);
        if (limit != FINE) {
            return refuse(limit);
        }
        int before = leaveNow;
        leaveNow = v;
        return before;
    }

    public int work(int c, int e, int what) {
        int wrong = workRefusal(c, e);
        if (wrong != FINE) {
            return refuse(wrong);
        }
        if (what != 0 && what != 1) {
            return refuse(OTHER);
        }
        planWork(c, e);
        if (!planner.found) {
            return NONE;
        }
        return what == 0 ? planner.longer : planner.shorter;
    }

    public int workAt(int c, int e, boolean second, int i) {
        int wrong = workRefusal(c, e);
        if (wrong != FINE) {
            return refuse(wrong);
        }
        planWork(c, e);
        if (!planner.found) {
            return NONE;
        }
        return planner.stopAt(second, i);
    }

    public int letters(int seed) {
        if (latest.size == 0) {
            return refuse(MISSING);
        }
        int limit = outside(seed, 0, GREATEST_SEED);
        if (limit != FINE) {
            return refuse(limit);
        }
        takeLettersAway();
        giveLetters(seed);
        return lettersGiven;
    }

    public int letter(int shop) {
        if (!shops.has(shop)) {
            return refuse(NOBODY);
        }
        return lettered[shop] ? 1 : 0;
    }

    public long helped(int day, int what) {
        int wrong = tableRefusal(day, what);
        if (wrong != FINE) {
            return refuse(wrong);
        }
        weighing.weigh(today, tests.size);
        table.clear();
        for (int i = 0; i < shops.size; i++) {
            if (latest.taken[i]) {
                enter(i, lettered[i], day);
            }
        }
        return table.tell(what);
    }

    public long wards(int a, int b, int day, int what) {
        if (!isWard(a) || !isWard(b) || a == b) {
            return refuse(NOBODY);
        }
        int wrong = tableRefusal(day, what);
        if (wrong != FINE) {
            return refuse(wrong);
        }
        weighing.weigh(today, tests.size);
        table.clear();
        for (int i = 0; i < shops.size; i++) {
            if (shops.ward[i] == a || shops.ward[i] == b) {
                enter(i, shops.ward[i] == a, day);
            }
        }
        return table.tell(what);
    }

    public int clerk(int clerk, int shop, int from, int to, int day) {
        if (clerk < 0 || clerk >= CLERKS || !shops.has(shop)) {
            return refuse(NOBODY);
        }
        if (from < 0 || to < 1 || to <= from || day < today) {
            return refuse(BELOW);
        }
        if (from >= HOURS || to > HOURS || day > LAST_DAY || clerks.size >= SHIFTS) {
            return refuse(ROOM);
        }
        return clerks.add(clerk, shop, from, to, day);
    }

    public int tally(int clerk, int what) {
        if (clerk < 0 || clerk >= CLERKS) {
            return refuse(NOBODY);
        }
        if (what != 0 && what != 1) {
            return refuse(OTHER);
        }
        tallyClerks();
        return what == 0 ? clerks.tested[clerk] : clerks.sold[clerk];
    }

    public int worst() {
        tallyClerks();
        return clerks.worstOne();
    }

    public int cost(int kind, int v) {
        if (!isKind(kind)) {
            return refuse(OTHER);
        }
        int limit = outside(v, 0, GREATEST_COST);
        if (limit != FINE) {
            return refuse(limit);
        }
        int before = costs[kind];
        costs[kind] = v;
        return before;
    }

    public int most(int budget) {
        if (shops.openOnes() == 0) {
            return refuse(STATE);
        }
        int limit = outside(budget, 0, GREATEST_BUDGET);
        if (limit != FINE) {
            return refuse(limit);
        }
        for (int n = SHOPS; n >= 1; n--) {
            foreseen.reckon(shops, n);
            if (foreseen.costsAtMost(budget, shops, costs)) {
                return n;
            }
        }
        return 0;
    }

    public int count(int what) {
        if (what >= 11 && what <= 16) {
            return refused[what - 11];
        }
        switch (what) {
            case 0:
                return today;
            case 1:
                return shops.size;
            case 2:
                return shops.openOnes();
            case 3:
                return children.toldOnes();
            case 4:
                return rules.size;
            case 5:
                return tests.size;
            case 6:
                return tests.voidedOnes();
            case 7:
                return goodNow(false);
            case 8:
                return goodNow(true);
            case 9:
                return latest.size;
            case 10:
                return lettersGiven;
            case 17:
                return tape.size;
            default:
                return NONE;
        }
    }

    private int refuse(int number) {
        int i = -1 - number;
        if (i >= 0 && i < refused.length) {
            refused[i]++;
        }
        return number;
    }

    private static int outside(int value, int least, int greatest) {
        if (value < least) {
            return BELOW;
        }
        return value > greatest ? ROOM : FINE;
    }

    private static boolean isKind(int kind) {
        return kind >= 0 && kind < KINDS;
    }

    private static boolean isWard(int ward) {
        return ward >= 0 && ward < WARDS;
    }

    private static boolean isUse(int use) {
        return use >= 0 && use < USES;
    }

    private static boolean isFact(int letter) {
        switch (letter) {
            case 'a':
            case 'b':
            case 'c':
            case 'd':
            case 'g':
            case 'h':
            case 'k':
            case 'm':
            case 'n':
            case 'o':
            case 'p':
            case 's':
            case 'y':
                return true;
            default:
                return false;
        }
    }

    private boolean mayBeTestedOn(int shop, int day) {
        return shops.ownerOn(shop, day) >= 0 && day <= today && day >= tests.latestDay();
    }

    private void takeLettersAway() {
        for (int i = 0; i < SHOPS; i++) {
            lettered[i] = false;
        }
        lettersGiven = 0;
    }

    private void giveLetters(int seed) {
        int number = seed;
        int shopsLeft = latest.size;
        int lettersLeft = latest.size / 2;
        for (int i = 0; i < SHOPS; i++) {
            if (!latest.taken[i] || shopsLeft < 1) {
                continue;
            }
            number = (number * 171 + 11213) % 53125;
            if (number % shopsLeft < lettersLeft) {
                lettered[i] = true;
                lettersGiven++;
                lettersLeft--;
            }
            shopsLeft--;
        }
    }

    private void weighBack(boolean all) {
        if (!all) {
            weighing.weigh(today, tests.size);
        }
        fraction.become(0, 1);
        for (int i = 0; i < SHOPS; i++) {
            if (latest.taken[i] && (all || weighing.latestGoodSold(i))) {
                fraction.add(latest.partsBelow(i), latest.partsAbove(i));
            }
        }
    }

    private int workRefusal(int c, int e) {
        if (!children.has(c) || !children.has(e) || c == e) {
            return NOBODY;
        }
        if (!children.isTold[c] || !children.isTold[e] || latest.size == 0) {
            return MISSING;
        }
        return FINE;
    }

    private void planWork(int c, int e) {
        planner.clear();
        for (int i = 0; i < shops.size; i++) {
            if (latest.taken[i] && shops.isOpen[i]) {
                planner.addStop(i, shops.x[i], shops.y[i], mayGo(c, i), mayGo(e, i));
            }
        }
        planner.plan(leaveNow);
    }

    private boolean mayGo(int child, int shop) {
        return !children.isKnown(child, shop) && !tests.anyOf(child, shop);
    }

    private static int tableRefusal(int day, int what) {
        if (what < 0 || what >= TABLE_WHATS) {
            return OTHER;
        }
        return outside(day, 0, LAST_DAY);
    }

    private void enter(int shop, boolean first, int day) {
        int test = weighing.firstGood(shop, day);
        if (test >= 0) {
            table.put(first, tests.isSold(test));
        }
    }

    private void tallyClerks() {
        weighing.weigh(today, tests.size);
        clerks.clearTally();
        for (int i = 0; i < tests.size; i++) {
            if (weighing.good[i]) {
                int who = clerks.standing(tests.shopOfTest[i], tests.hour[i], tests.day[i]);
                clerks.addToTally(who, tests.isSold(i));
            }
        }
    }

    private int goodNow(boolean soldOnly) {
        weighing.weigh(today, tests.size);
        int found = 0;
        for (int i = 0; i < tests.size; i++) {
            if (weighing.good[i] && (!soldOnly || tests.isSold(i))) {
                found++;
            }
        }
        return found;
    }

    /** A fraction that is always without a common divisor. */
    private static final class Fraction {
        long above;
        long below;

        Fraction() {
            above = 0;
            below = 1;
        }

        void become(long newAbove, long newBelow) {
            long divisor = commonDivisor(newAbove, newBelow);
            if (divisor < 1) {
                divisor = 1;
            }
            above = newAbove / divisor;
            below = newBelow / divisor;
        }

        void add(long moreAbove, long moreBelow) {
            become(above * moreBelow + moreAbove * below, below * moreBelow);
        }

        private static long commonDivisor(long a, long b) {
            long greater = a;
            long less = b;
            // Euclid's way takes fewer than 100 rounds for any two longs.
            for (int i = 0; i < 100 && less != 0; i++) {
                long rest = greater % less;
                greater = less;
                less = rest;
            }
            return greater;
        }
    }

    /** The SHOPS and their OWNERS. */
    private static final class Shops {
        final int[] kind;
        final int[] ward;
        final int[] x;
        final int[] y;
        final int[] weights;
        final boolean[] isOpen;
        final int[] owners;
        final int[] since;
        int size;

        Shops() {
            kind = new int[SHOPS];
            ward = new int[SHOPS];
            x = new int[SHOPS];
            y = new int[SHOPS];
            weights = new int[SHOPS];
            isOpen = new boolean[SHOPS];
            owners = new int[SHOPS];
            since = new int[SHOPS * OWNERS];
            size = 0;
        }

        boolean has(int number) {
            return number >= 0 && number < size;
        }

        int add(int newKind, int newWard, int newX, int newY, int day) {
            int number = size;
            if (number >= SHOPS) {
                return ROOM;
            }
            kind[number] = newKind;
            ward[number] = newWard;
            x[number] = newX;
            y[number] = newY;
            weights[number] = 1;
            isOpen[number] = true;
            size++;
            addOwner(number, day);
            return number;
        }

        int addOwner(int number, int day) {
            if (!has(number) || owners[number] >= OWNERS) {
                return ROOM;
            }
            since[number * OWNERS + owners[number]] = day;
            owners[number]++;
            return owners[number];
        }

        int ownedSince(int number) {
            if (!has(number) || owners[number] < 1) {
                return -1;
            }
            return since[number * OWNERS + owners[number] - 1];
        }

        /** The row of the OWNER that a SHOP has on a DAY; -1 if it was not told by then. */
        int ownerOn(int number, int day) {
            if (!has(number)) {
                return -1;
            }
            int row = -1;
            for (int i = 0; i < owners[number] && i < OWNERS; i++) {
                if (since[number * OWNERS + i] <= day) {
                    row = number * OWNERS + i;
                }
            }
            return row;
        }

        int openOnes() {
            int found = 0;
            for (int i = 0; i < size; i++) {
                if (isOpen[i]) {
                    found++;
                }
            }
            return found;
        }
    }

    /** The CHILDREN, what strangers guess of them, and where they are KNOWN. */
    private static final class Children {
        final boolean[] isTold;
        final int[] born;
        final int[] guessed;
        private final int[] guesses;
        private final boolean[] knownIn;

        Children() {
            isTold = new boolean[CHILDREN];
            born = new int[CHILDREN];
            guessed = new int[CHILDREN];
            guesses = new int[CHILDREN * GUESSES];
            knownIn = new boolean[CHILDREN * SHOPS];
        }

        boolean has(int number) {
            return number >= 0 && number < CHILDREN;
        }

        /** Whether the CHILD was not told till now. */
        boolean tell(int number, int day) {
            if (!has(number)) {
                return false;
            }
            boolean isNew = !isTold[number];
            isTold[number] = true;
            born[number] = day;
            guessed[number] = 0;
            for (int i = 0; i < SHOPS; i++) {
                knownIn[number * SHOPS + i] = false;
            }
            return isNew;
        }

        /** The GUESSES stand in order, so that the middle one is found by its place. */
        int addGuess(int number, int years) {
            if (!has(number) || guessed[number] >= GUESSES) {
                return ROOM;
            }
            int first = number * GUESSES;
            int place = first + guessed[number];
            for (int i = 0; i < GUESSES && place > first && guesses[place - 1] > years; i++) {
                guesses[place] = guesses[place - 1];
                place--;
            }
            guesses[place] = years;
            guessed[number]++;
            return guessed[number];
        }

        int toldOnes() {
            int found = 0;
            for (int i = 0; i < CHILDREN; i++) {
                if (isTold[i]) {
                    found++;
                }
            }
            return found;
        }

        int age(int number, int day) {
            return has(number) ? (day - born[number]) / 365 : 0;
        }

        int looks(int number, int day) {
            if (!has(number) || guessed[number] < 1 || guessed[number] > GUESSES) {
                return age(number, day);
            }
            return guesses[number * GUESSES + guessed[number] / 2];
        }

        boolean isKnown(int number, int shop) {
            return has(number) && shop >= 0 && shop < SHOPS && knownIn[number * SHOPS + shop];
        }

        /** Whether that changed something. */
        boolean setKnown(int number, int shop, boolean on) {
            if (!has(number) || shop < 0 || shop >= SHOPS || knownIn[number * SHOPS + shop] == on) {
                return false;
            }
            knownIn[number * SHOPS + shop] = on;
            return true;
        }
    }

    /** A DRAW: who was OPEN then, who is SURE, the PARTS of the others, and who was drawn. */
    private static final class Draw {
        final boolean[] taken;
        private final boolean[] inside;
        private final boolean[] sure;
        private final int[] weights;
        private int rest;
        private int restWeight;
        int size;

        Draw() {
            taken = new boolean[SHOPS];
            inside = new boolean[SHOPS];
            sure = new boolean[SHOPS];
            weights = new int[SHOPS];
            rest = 0;
            restWeight = 0;
            size = 0;
        }

        void reckon(Shops shops, int n) {
            rest = n;
            restWeight = 0;
            for (int i = 0; i < SHOPS; i++) {
                inside[i] = shops.has(i) && shops.isOpen[i];
                sure[i] = false;
                weights[i] = inside[i] ? shops.weights[i] : 0;
                restWeight += weights[i];
            }
            // Each round but the last makes at least one SHOP SURE.
            for (int round = 0; round < SHOPS; round++) {
                if (!makeSure()) {
                    break;
                }
            }
        }

        private boolean makeSure() {
            int n = rest;
            int all = restWeight;
            boolean any = false;
            for (int i = 0; i < SHOPS; i++) {
                if (isOther(i) && n * weights[i] >= all) {
                    sure[i] = true;
                    rest--;
                    restWeight -= weights[i];
                    any = true;
                }
            }
            return any;
        }

        private boolean isOther(int shop) {
            return inside[shop] && !sure[shop];
        }

        /** How many were drawn. Lengths are told in parts of 1 by 1000 times the others' WEIGHTS. */
        int take(int u) {
            int point = u * restWeight;
            int end = 0;
            size = 0;
            for (int i = 0; i < SHOPS; i++) {
                taken[i] = sure[i];
                if (isOther(i)) {
                    end += 1000 * rest * weights[i];
                    // A stretch is shorter than 1, so it can not hold two points.
                    if (point < end) {
                        taken[i] = true;
                        point += 1000 * restWeight;
                    }
                }
                if (taken[i]) {
                    size++;
                }
            }
            return size;
        }

        long partsAbove(int shop) {
            if (shop < 0 || shop >= SHOPS || !inside[shop]) {
                return 0;
            }
            return sure[shop] ? 1 : rest * weights[shop];
        }

        long partsBelow(int shop) {
            if (shop < 0 || shop >= SHOPS || !isOther(shop)) {
                return 1;
            }
            return restWeight;
        }

        boolean costsAtMost(int budget, Shops shops, int[] costs) {
            int sureCost = 0;
            int restCost = 0;
            for (int i = 0; i < SHOPS; i++) {
                int kind = shops.kind[i];
                if (!inside[i] || kind < 0 || kind >= costs.length) {
                    continue;
                }
                if (sure[i]) {
                    sureCost += costs[kind];
                } else {
                    restCost += weights[i] * costs[kind];
                }
            }
            int below = restWeight > 0 ? restWeight : 1;
            return sureCost * below + rest * restCost <= budget * below;
        }
    }

    /** THE TAPE, and how its bytes become a RULE: a row of tokens, each sign behind what it joins. */
    private static final class Tape {
        static final int DEEPEST = 6;
        static final int DIGITS = 4;
        static final int END = -1;
        static final int LETTER = 10000;
        static final int OR = -1;
        static final int AND = -2;
        static final int NOT = -3;
        static final int LESS = -4;
        static final int SAME = -5;
        static final int MORE = -6;
        static final int PLUS = -7;
        static final int MINUS = -8;

        private final int[] bytes;
        final int[] code;
        int size;
        int codeSize;
        private int place;
        private int fault;

        Tape() {
            bytes = new int[TAPE];
            code = new int[TAPE];
            size = 0;
            codeSize = 0;
            place = 0;
            fault = -1;
        }

        int append(int n, long lowestFirst) {
            long more = lowestFirst;
            for (int i = 0; i < n && size < TAPE; i++) {
                bytes[size] = (int) (more & 255);
                size++;
                more >>>= 8;
            }
            return size;
        }

        /** The place of the FAULT, or -1. */
        int translate() {
            place = 0;
            fault = -1;
            codeSize = 0;
            readChoice(0);
            if (place < size) {
                fail();
            }
            return fault;
        }

        private void fail() {
            if (fault < 0) {
                fault = place;
            }
        }

        /** Behind a FAULT there is nothing more to read, so all that reads comes to its end. */
        private int peek() {
            return fault >= 0 || place < 0 || place >= size || place >= TAPE ? END : bytes[place];
        }

        private void put(int token) {
            if (codeSize < TAPE) {
                code[codeSize] = token;
                codeSize++;
            }
        }

        /** RULE of the document. */
        private void readChoice(int deep) {
            readTerm(deep);
            for (int i = 0; i < TAPE && peek() == '|'; i++) {
                place++;
                readTerm(deep);
                put(OR);
            }
        }

        private void readTerm(int deep) {
            readPart(deep);
            for (int i = 0; i < TAPE && peek() == '&'; i++) {
                place++;
                readPart(deep);
                put(AND);
            }
        }

        private void readPart(int deep) {
            int sign = peek();
            if (sign == '!' || sign == '(') {
                readDeeper(sign, deep);
                return;
            }
            readSum();
            sign = peek();
            if (sign == '<' || sign == '=' || sign == '>') {
                place++;
                readSum();
                put(sign == '<' ? LESS : sign == '=' ? SAME : MORE);
            }
        }

        private void readDeeper(int sign, int deep) {
            if (deep >= DEEPEST) {
                fail();
                return;
            }
            place++;
            if (sign == '!') {
                readPart(deep + 1);
                put(NOT);
                return;
            }
            readChoice(deep + 1);
            if (peek() == ')') {
                place++;
            } else {
                fail();
            }
        }

        private void readSum() {
            readUnit();
            for (int i = 0; i < TAPE; i++) {
                int sign = peek();
                if (sign != '+' && sign != '-') {
                    break;
                }
                place++;
                readUnit();
                put(sign == '+' ? PLUS : MINUS);
            }
        }

        private void readUnit() {
            int sign = peek();
            if (isFact(sign)) {
                put(LETTER + sign - 'a');
                place++;
                return;
            }
            if (!isDigit(sign)) {
                fail();
                return;
            }
            int value = 0;
            for (int i = 0; i < DIGITS && isDigit(peek()); i++) {
                value = value * 10 + peek() - '0';
                place++;
            }
            put(value);
        }

        private static boolean isDigit(int sign) {
            return sign >= '0' && sign <= '9';
        }
    }

    /** The RULES as rows of tokens. */
    private static final class Rules {
        private final int[] uses;
        private final int[] fromDay;
        private final int[] lengths;
        private final int[] codes;
        private final int[] stack;
        int size;

        Rules() {
            uses = new int[RULES];
            fromDay = new int[RULES];
            lengths = new int[RULES];
            codes = new int[RULES * TAPE];
            stack = new int[TAPE];
            size = 0;
        }

        int add(int use, int day, int[] code, int length) {
            int number = size;
            if (number >= RULES) {
                return ROOM;
            }
            uses[number] = use;
            fromDay[number] = day;
            lengths[number] = length;
            for (int i = 0; i < length && i < TAPE && i < code.length; i++) {
                codes[number * TAPE + i] = code[i];
            }
            size++;
            return number;
        }

        int inForce(int use, int day) {
            int found = NONE;
            int latestDay = -1;
            for (int i = 0; i < size; i++) {
                if (uses[i] == use && fromDay[i] <= day && fromDay[i] >= latestDay) {
                    found = i;
                    latestDay = fromDay[i];
                }
            }
            return found;
        }

        boolean holds(int use, int day, int[] facts) {
            int number = inForce(use, day);
            if (number < 0) {
                return use == 0;
            }
            return value(number, facts) > 0;
        }

        /** What is joined by ! & | holds if it is above 0, a SUM alone and a comparison alike. */
        private int value(int number, int[] facts) {
            int top = 0;
            for (int i = 0; i < lengths[number] && i < TAPE; i++) {
                int token = codes[number * TAPE + i];
                if (token >= 0) {
                    if (top < TAPE) {
                        stack[top] = unit(token, facts);
                        top++;
                    }
                } else if (token == Tape.NOT) {
                    if (top > 0) {
                        stack[top - 1] = stack[top - 1] > 0 ? 0 : 1;
                    }
                } else if (top > 1) {
                    top--;
                    stack[top - 1] = join(token, stack[top - 1], stack[top]);
                }
            }
            return stack[0];
        }

        private static int unit(int token, int[] facts) {
            int fact = token - Tape.LETTER;
            return fact >= 0 && fact < facts.length ? facts[fact] : token;
        }

        private static int join(int token, int left, int right) {
            switch (token) {
                case Tape.PLUS:
                    return left + right;
                case Tape.MINUS:
                    return left - right;
                case Tape.LESS:
                    return left < right ? 1 : 0;
                case Tape.SAME:
                    return left == right ? 1 : 0;
                case Tape.MORE:
                    return left > right ? 1 : 0;
                case Tape.AND:
                    return left > 0 && right > 0 ? 1 : 0;
                default:
                    return left > 0 || right > 0 ? 1 : 0;
            }
        }
    }

    /** The TESTS as they were told, and when they were VOIDED. */
    private static final class Tests {
        static final int NEVER = -1;

        final int[] shopOfTest;
        final int[] childOfTest;
        final int[] day;
        final int[] hour;
        final int[] bits;
        final int[] toldOn;
        final int[] voidedOn;
        int size;

        Tests() {
            shopOfTest = new int[TESTS];
            childOfTest = new int[TESTS];
            day = new int[TESTS];
            hour = new int[TESTS];
            bits = new int[TESTS];
            toldOn = new int[TESTS];
            voidedOn = new int[TESTS];
            size = 0;
        }

        boolean has(int number) {
            return number >= 0 && number < size;
        }

        int add(int shop, int child, int onDay, int atHour, int withBits, int now) {
            int number = size;
            if (number >= TESTS) {
                return ROOM;
            }
            shopOfTest[number] = shop;
            childOfTest[number] = child;
            day[number] = onDay;
            hour[number] = atHour;
            bits[number] = withBits;
            toldOn[number] = now;
            voidedOn[number] = NEVER;
            size++;
            return number;
        }

        /** The DAY of the TEST that was told last. */
        int latestDay() {
            return size > 0 && size <= TESTS ? day[size - 1] : 0;
        }

        /** How many TESTS are of DAYS not behind this one: DAYS go up with numbers. */
        int until(int lastDay) {
            int found = 0;
            for (int i = 0; i < size && day[i] <= lastDay; i++) {
                found++;
            }
            return found;
        }

        boolean isSold(int number) {
            return has(number) && (bits[number] & SOLD) != 0;
        }

        boolean isVoided(int number) {
            return has(number) && voidedOn[number] != NEVER;
        }

        boolean countsAsOf(int number, int k) {
            if (!has(number) || toldOn[number] > k) {
                return false;
            }
            return voidedOn[number] == NEVER || voidedOn[number] > k;
        }

        int voidedOnes() {
            int found = 0;
            for (int i = 0; i < size; i++) {
                if (isVoided(i)) {
                    found++;
                }
            }
            return found;
        }

        /** Whether a CHILD had a TEST in a SHOP that counts now. */
        boolean anyOf(int child, int shop) {
            for (int i = 0; i < size; i++) {
                if (childOfTest[i] == child && shopOfTest[i] == shop && !isVoided(i)) {
                    return true;
                }
            }
            return false;
        }
    }

    /** All that is weighed, and WEIGHING AGAIN: what came out for TESTS, and for OWNERS so far. */
    private static final class Weighing {
        static final int NEVER = -1;
        static final int NO_DAYS = 999;
        static final int NO_MONTHS = 99;
        static final int MONTH = 30;

        final Shops shops;
        final Children children;
        final Tests tests;
        final Rules rules;
        final boolean[] good;
        final int[] ledTo;
        final int[] facts;
        private final int[] visits;
        private final int[] goods;
        private final int[] solds;
        private final int[] goodDay;
        private final int[] steps;
        private final int[] stepDay;

        Weighing() {
            shops = new Shops();
            children = new Children();
            tests = new Tests();
            rules = new Rules();
            good = new boolean[TESTS];
            ledTo = new int[TESTS];
            facts = new int[ALPHABET];
            visits = new int[CHILDREN * SHOPS];
            goods = new int[SHOPS * OWNERS];
            solds = new int[SHOPS * OWNERS];
            goodDay = new int[SHOPS * OWNERS];
            steps = new int[SHOPS * OWNERS];
            stepDay = new int[SHOPS * OWNERS];
        }

        /** Goes through the first TESTS, so many as told, as of k. */
        void weigh(int k, int first) {
            forget();
            for (int i = 0; i < first && i < tests.size; i++) {
                if (tests.countsAsOf(i, k)) {
                    gather(i);
                    settle(i);
                }
            }
        }

        private void forget() {
            for (int i = 0; i < TESTS; i++) {
                good[i] = false;
            }
            Arrays.fill(ledTo, 0);
            Arrays.fill(visits, 0);
            Arrays.fill(goods, 0);
            Arrays.fill(solds, 0);
            Arrays.fill(goodDay, NEVER);
            Arrays.fill(steps, 0);
            Arrays.fill(stepDay, NEVER);
        }

        /** The FACTS of a TEST, by the TESTS gone through so far. */
        void gather(int test) {
            int owner = ownerOf(test);
            int visit = visitOf(test);
            if (owner < 0 || visit < 0) {
                return;
            }
            int child = tests.childOfTest[test];
            int day = tests.day[test];
            int bits = tests.bits[test];
            facts['a' - 'a'] = children.age(child, day);
            facts['b' - 'a'] = children.looks(child, day);
            facts['c' - 'a'] = (bits & ASKED) != 0 ? 1 : 0;
            facts['d' - 'a'] = goodDay[owner] == NEVER ? NO_DAYS : day - goodDay[owner];
            facts['g' - 'a'] = (bits & NEAR) != 0 ? 1 : 0;
            facts['h' - 'a'] = tests.hour[test];
            facts['k' - 'a'] = visits[visit];
            facts['m' - 'a'] = stepDay[owner] == NEVER ? NO_MONTHS : (day - stepDay[owner]) / MONTH;
            facts['n' - 'a'] = children.isKnown(child, tests.shopOfTest[test]) ? 1 : 0;
            facts['o' - 'a'] = goods[owner];
            facts['p' - 'a'] = solds[owner];
            facts['s' - 'a'] = (bits & SOLD) != 0 ? 1 : 0;
            facts['y' - 'a'] = steps[owner];
        }

        /** Whether a TEST whose FACTS are gathered is GOOD, and what follows from it. */
        private void settle(int test) {
            int owner = ownerOf(test);
            int visit = visitOf(test);
            if (owner < 0 || visit < 0) {
                return;
            }
            visits[visit]++;
            int day = tests.day[test];
            good[test] = rules.holds(0, day, facts);
            if (!good[test]) {
                return;
            }
            goods[owner]++;
            goodDay[owner] = day;
            if (!tests.isSold(test)) {
                return;
            }
            solds[owner]++;
            if (steps[owner] < TOP_STEP && rules.holds(steps[owner] + 1, day, facts)) {
                steps[owner]++;
                stepDay[owner] = day;
                ledTo[test] = steps[owner];
            }
        }

        /** The row of the OWNER to whom a TEST belongs; -1 without. */
        private int ownerOf(int test) {
            return tests.has(test) ? shops.ownerOn(tests.shopOfTest[test], tests.day[test]) : -1;
        }

        /** Where the TESTS of this CHILD in this SHOP are told; -1 without. */
        private int visitOf(int test) {
            if (!tests.has(test)) {
                return -1;
            }
            int child = tests.childOfTest[test];
            int shop = tests.shopOfTest[test];
            return children.has(child) && shops.has(shop) ? child * SHOPS + shop : -1;
        }

        /** STEP of the OWNER that a SHOP has on a DAY. */
        int stepOf(int shop, int day) {
            int owner = shops.ownerOn(shop, day);
            return owner < 0 ? 0 : steps[owner];
        }

        /** The first GOOD TEST of a SHOP from a DAY on; -1 without. */
        int firstGood(int shop, int day) {
            for (int i = 0; i < tests.size; i++) {
                if (good[i] && tests.shopOfTest[i] == shop && tests.day[i] >= day) {
                    return i;
                }
            }
            return -1;
        }

        boolean latestGoodSold(int shop) {
            boolean sold = false;
            for (int i = 0; i < tests.size; i++) {
                if (good[i] && tests.shopOfTest[i] == shop) {
                    sold = tests.isSold(i);
                }
            }
            return sold;
        }
    }

    /** BEST WORK of two teams. A set of SHOPS is a number, the first SHOP its highest bit. */
    private static final class Planner {
        static final int STOPS = 8;
        static final int SETS = 256;
        static final int HOME = 8;
        static final int STAY = 10;
        static final int FAR = 1000000;

        private final int[] stops;
        private final int[] xs;
        private final int[] ys;
        private final int[] ways;
        private final int[] times;
        private final boolean[] mayFirst;
        private final boolean[] maySecond;
        private int size;
        private int ofFirst;
        boolean found;
        int longer;
        int shorter;

        Planner() {
            stops = new int[STOPS];
            xs = new int[STOPS + 1];
            ys = new int[STOPS + 1];
            ways = new int[SETS * STOPS];
            times = new int[SETS];
            mayFirst = new boolean[STOPS];
            maySecond = new boolean[STOPS];
            size = 0;
            ofFirst = 0;
            found = false;
            longer = 0;
            shorter = 0;
        }

        void clear() {
            size = 0;
        }

        /** SHOPS come in the order of their numbers; those beyond the eighth are left out. */
        void addStop(int shop, int x, int y, boolean first, boolean second) {
            if (size >= STOPS) {
                return;
            }
            stops[size] = shop;
            xs[size] = x;
            ys[size] = y;
            mayFirst[size] = first;
            maySecond[size] = second;
            size++;
        }

        void plan(int leaveOfTeam) {
            reckonTimes();
            found = false;
            // From the greatest set down: of equals the one that gives first SHOPS to the first team.
            for (int set = all(); set >= 0; set--) {
                if (!isAllowed(set)) {
                    continue;
                }
                int one = times[set];
                int two = times[all() - set];
                offer(set, Math.max(one, two), Math.min(one, two), leaveOfTeam);
            }
        }

        private void offer(int set, int more, int less, int leaveOfTeam) {
            if (more > leaveOfTeam) {
                return;
            }
            if (!found || more < longer || more == longer && less < shorter) {
                found = true;
                ofFirst = set;
                longer = more;
                shorter = less;
            }
        }

        private int all() {
            return (1 << size) - 1;
        }

        private int bit(int stop) {
            return 1 << (size - 1 - stop);
        }

        private boolean isAllowed(int set) {
            for (int i = 0; i < size; i++) {
                if (!((set & bit(i)) != 0 ? mayFirst[i] : maySecond[i])) {
                    return false;
                }
            }
            return true;
        }

        /** The shortest ways from home through a set to each of its SHOPS, and the TIME of the set. */
        private void reckonTimes() {
            times[0] = 0;
            for (int set = 1; set <= all() && set < SETS; set++) {
                int round = FAR;
                for (int last = 0; last < size; last++) {
                    if ((set & bit(last)) != 0) {
                        int way = shortestTo(last, set - bit(last));
                        ways[set * STOPS + last] = way;
                        round = Math.min(round, way + leg(last, HOME));
                    }
                }
                times[set] = round + STAY * Integer.bitCount(set);
            }
        }

        private int shortestTo(int last, int before) {
            if (before == 0) {
                return leg(HOME, last);
            }
            int best = FAR;
            for (int i = 0; i < size; i++) {
                if ((before & bit(i)) != 0) {
                    best = Math.min(best, ways[before * STOPS + i] + leg(i, last));
                }
            }
            return best;
        }

        /** Home's own place in the rows stays 0, 0. */
        private int leg(int from, int to) {
            return Math.abs(xs[from] - xs[to]) + Math.abs(ys[from] - ys[to]);
        }

        int stopAt(boolean second, int i) {
            int left = second ? all() - ofFirst : ofFirst;
            if (i < 0 || i >= Integer.bitCount(left)) {
                return NONE;
            }
            int here = HOME;
            for (int n = 0; n <= i && n < STOPS; n++) {
                here = nextStop(here, left);
                left -= bit(here);
            }
            return here < STOPS ? stops[here] : NONE;
        }

        /** A way from home to a SHOP is as long backwards: so it tells how far it is yet from there. */
        private int nextStop(int here, int left) {
            int best = FAR;
            int next = 0;
            for (int i = 0; i < size; i++) {
                if ((left & bit(i)) != 0 && leg(here, i) + ways[left * STOPS + i] < best) {
                    best = leg(here, i) + ways[left * STOPS + i];
                    next = i;
                }
            }
            return next;
        }
    }

    /** A table of SHOPS in two halves, and its CHANCE. */
    private static final class Table {
        private final Fraction chance;
        private int firstOnes;
        private int firstSold;
        private int secondOnes;
        private int secondSold;

        Table() {
            chance = new Fraction();
            firstOnes = 0;
            firstSold = 0;
            secondOnes = 0;
            secondSold = 0;
        }

        void clear() {
            firstOnes = 0;
            firstSold = 0;
            secondOnes = 0;
            secondSold = 0;
        }

        void put(boolean first, boolean sold) {
            int more = sold ? 1 : 0;
            if (first) {
                firstOnes++;
                firstSold += more;
            } else {
                secondOnes++;
                secondSold += more;
            }
        }

        long tell(int what) {
            reckonChance();
            switch (what) {
                case 0:
                    return chance.above;
                case 1:
                    return chance.below;
                case 2:
                    return firstOnes;
                case 3:
                    return firstSold;
                case 4:
                    return secondOnes;
                case 5:
                    return secondSold;
                default:
                    return chance.above * 20 <= chance.below ? 1 : 0;
            }
        }

        private void reckonChance() {
            int sold = firstSold + secondSold;
            long soFew = 0;
            for (int i = 0; i <= firstSold; i++) {
                soFew += waysToChoose(firstOnes, i) * waysToChoose(secondOnes, sold - i);
            }
            chance.become(soFew, waysToChoose(firstOnes + secondOnes, sold));
        }

        private static long waysToChoose(int n, int some) {
            if (some < 0 || some > n) {
                return 0;
            }
            long found = 1;
            for (int i = 1; i <= some; i++) {
                found = found * (n - some + i) / i;
            }
            return found;
        }
    }

    /** Which CLERKS stand where and when, and the TALLY of each. */
    private static final class Clerks {
        private final int[] who;
        private final int[] where;
        private final int[] from;
        private final int[] to;
        private final int[] fromDay;
        final int[] tested;
        final int[] sold;
        int size;

        Clerks() {
            who = new int[SHIFTS];
            where = new int[SHIFTS];
            from = new int[SHIFTS];
            to = new int[SHIFTS];
            fromDay = new int[SHIFTS];
            tested = new int[CLERKS];
            sold = new int[CLERKS];
            size = 0;
        }

        int add(int newWho, int newWhere, int newFrom, int newTo, int day) {
            if (size >= SHIFTS) {
                return ROOM;
            }
            who[size] = newWho;
            where[size] = newWhere;
            from[size] = newFrom;
            to[size] = newTo;
            fromDay[size] = day;
            size++;
            return size;
        }

        int standing(int shop, int hour, int day) {
            int found = NONE;
            for (int i = 0; i < size; i++) {
                if (where[i] == shop && from[i] <= hour && hour < to[i] && fromDay[i] <= day) {
                    found = who[i];
                }
            }
            return found;
        }

        void clearTally() {
            Arrays.fill(tested, 0);
            Arrays.fill(sold, 0);
        }

        void addToTally(int number, boolean wasSold) {
            if (number < 0 || number >= CLERKS) {
                return;
            }
            tested[number]++;
            if (wasSold) {
                sold[number]++;
            }
        }

        int worstOne() {
            int found = NONE;
            for (int i = 0; i < CLERKS; i++) {
                if (tested[i] >= 2 && (found < 0 || sold[i] * tested[found] > sold[found] * tested[i])) {
                    found = i;
                }
            }
            return found;
        }
    }
}
