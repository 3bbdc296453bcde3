/** Boundary cases of promises 30 to 32 and of what "Terms" VII says of CLERKS. */
public final class EdgesClerksTest {
    public static void main(String[] args) {
        Check c = new Check();
        clerkArguments(c);
        fromAndTo(c);
        clerkDays(c);
        clerkOrder(c);
        fortyAreTold(c);
        notToItself(c);
        dayNotBehind(c);
        theLatestTold(c);
        tallyArguments(c);
        goodTestsAsOfNow(c);
        twoTestsOrMore(c);
        greatestPart(c);
        overASale(c);
        c.end();
    }

    private static YoungBuyers oneShop() {
        YoungBuyers x = new YoungBuyers();
        x.shop(0, 0, 0, 0);
        x.child(0, -5000);
        return x;
    }

    private static YoungBuyers shifts(int n) {
        YoungBuyers x = oneShop();
        for (int i = 0; i < n; i++) {
            x.clerk(i % 10, 0, i % 24, 24, 0);
        }
        return x;
    }

    /** "CLERKS 0 .. 9"; "from 0 .. 23, to 1 .. 24". Three are told. */
    private static void clerkArguments(Check c) {
        Twins.Town t = Twins::busy;
        Twins.range(c, "clerk", t, Twins.of(0, 9), Twins.of(-1, -1), (x, v) -> x.clerk(v, 0, 0, 24, 9), v -> 4);
        Twins.range(c, "shop", t, Twins.of(0, 6), Twins.of(-1, -1), (x, v) -> x.clerk(0, v, 0, 24, 9), v -> 4);
        Twins.range(c, "to", t, Twins.of(1, 24), Twins.of(-4, -6), (x, v) -> x.clerk(0, 0, 0, v, 9), v -> 4);
        Twins.range(c, "day", t, Twins.of(9, 2000), Twins.of(-4, -6), (x, v) -> x.clerk(0, 0, 0, 24, v), v -> 4);
        c.due("the first that is told", oneShop().clerk(9, 0, 23, 24, 2000), 1);
    }

    /** "-4 (to not above from, too)." */
    private static void fromAndTo(Check c) {
        Twins.Town t = Twins::busy;
        Twins.range(c, "from, to 24", t, Twins.of(0, 23), Twins.of(-4, -4), (x, v) -> x.clerk(0, 0, v, 24, 9), v -> 4);
        Twins.range(c, "to behind 5", t, Twins.of(6, 24), Twins.of(-4, -6), (x, v) -> x.clerk(0, 0, 5, v, 9), v -> 4);
        Twins.range(c, "from ahead of 5", t, Twins.of(0, 4), Twins.of(-4, -4), (x, v) -> x.clerk(0, 0, v, 5, 9),
                v -> 4);
        Twins.refuses(c, "to as from, 0", t, -4, x -> x.clerk(0, 0, 0, 0, 9));
        Twins.refuses(c, "to as from, 23", t, -4, x -> x.clerk(0, 0, 23, 23, 9));
        Twins.refuses(c, "to as from, 24", t, -4, x -> x.clerk(0, 0, 24, 24, 9));
        Twins.refuses(c, "to below from, from above 23", t, -4, x -> x.clerk(0, 0, 25, 24, 9));
        Twins.refuses(c, "24 to 25", t, -6, x -> x.clerk(0, 0, 24, 25, 9));
        Twins.refuses(c, "23 to 25", t, -6, x -> x.clerk(0, 0, 23, 25, 9));
        Twins.refuses(c, "far above", t, -6, x -> x.clerk(0, 0, Integer.MAX_VALUE - 1, Integer.MAX_VALUE, 9));
        Twins.refuses(c, "from below, to above", t, -4, x -> x.clerk(0, 0, -1, 25, 9));
        c.due("the last hour", Twins.busy().clerk(0, 0, 23, 24, 9), 4);
        c.due("the first hour", Twins.busy().clerk(0, 0, 0, 1, 9), 4);
    }

    /** "DAY ahead of now, too." */
    private static void clerkDays(Check c) {
        Twins.Town last = () -> {
            YoungBuyers x = oneShop();
            x.days(2000);
            return x;
        };
        c.due("on the last day", last.make().clerk(0, 0, 0, 24, 2000), 1);
        Twins.refuses(c, "ahead of it", last, -4, x -> x.clerk(0, 0, 0, 24, 1999));
        Twins.refuses(c, "behind it", last, -6, x -> x.clerk(0, 0, 0, 24, 2001));
        Twins.refuses(c, "day -1 on day 0", EdgesClerksTest::oneShop, -4, x -> x.clerk(0, 0, 0, 24, -1));
    }

    /** "-1; -4; -6." */
    private static void clerkOrder(Check c) {
        Twins.Town t = Twins::busy;
        Twins.refuses(c, "no clerk, from, to, day", t, -1, x -> x.clerk(10, 0, -1, 25, 8));
        Twins.refuses(c, "no shop, from, to, day", t, -1, x -> x.clerk(0, 7, -1, 25, 8));
        Twins.refuses(c, "no shop, above", t, -1, x -> x.clerk(0, -1, 0, 25, 2001));
        Twins.refuses(c, "day ahead, to above", t, -4, x -> x.clerk(0, 0, 0, 25, 8));
        Twins.refuses(c, "from below, day above", t, -4, x -> x.clerk(0, 0, -1, 24, 2001));
        Twins.refuses(c, "to below, day above", t, -4, x -> x.clerk(0, 0, 0, 0, 2001));
    }

    /** "-6 (40 are told, too)." */
    private static void fortyAreTold(Check c) {
        c.due("the 39th", shifts(38).clerk(0, 0, 0, 24, 0), 39);
        c.due("the 40th", shifts(39).clerk(0, 0, 0, 24, 0), 40);
        Twins.Town full = () -> shifts(40);
        Twins.refuses(c, "a 41st", full, -6, x -> x.clerk(0, 0, 0, 24, 0));
        Twins.refuses(c, "a 41st, no clerk", full, -1, x -> x.clerk(10, 0, 0, 24, 0));
        Twins.refuses(c, "a 41st, to below", full, -4, x -> x.clerk(0, 0, 0, 0, 0));
        YoungBuyers x = shifts(39);
        x.clerk(3, 0, 0, 24, 0);
        x.test(0, 0, 0, 0, 23, 4);
        c.due("the 40th stands there", x.tally(3, 0), 1);
        x.clerk(4, 0, 0, 24, 0);
        c.due("a refused one does not", x.tally(4, 0), 0);
        c.due("the 40th stands there", x.tally(3, 1), 1);
    }

    private static void tallyIs(Check c, String name, YoungBuyers x, int clerk, int tests, int sold) {
        c.due(name + ": tests", x.tally(clerk, 0), tests);
        c.due(name + ": sold", x.tally(clerk, 1), sold);
    }

    /** "In hours from .. to (not to itself)." */
    private static void notToItself(Check c) {
        int[][] due = {{7, 0}, {8, 1}, {9, 1}, {11, 1}, {12, 0}, {13, 0}};
        for (int[] d : due) {
            YoungBuyers x = oneShop();
            x.clerk(5, 0, 8, 12, 0);
            x.test(0, 0, 0, 0, d[0], 4);
            tallyIs(c, "at " + d[0], x, 5, d[1], d[1]);
        }
        YoungBuyers all = oneShop();
        all.clerk(5, 0, 0, 24, 0);
        all.test(0, 0, 0, 0, 0, 0);
        all.test(0, 0, 0, 0, 23, 0);
        tallyIs(c, "all day", all, 5, 2, 0);
        YoungBuyers hour = oneShop();
        hour.clerk(5, 0, 23, 24, 0);
        hour.test(0, 0, 0, 0, 22, 0);
        hour.test(0, 0, 0, 0, 23, 0);
        tallyIs(c, "the last hour", hour, 5, 1, 0);
    }

    /** "Told from a DAY on": that DAY itself, not the one ahead of it. */
    private static void dayNotBehind(Check c) {
        YoungBuyers x = oneShop();
        x.clerk(5, 0, 0, 24, 6);
        x.days(9);
        x.test(0, 0, 0, 5, 0, 4);
        tallyIs(c, "on 5", x, 5, 0, 0);
        x.test(0, 0, 0, 6, 0, 4);
        tallyIs(c, "on 6", x, 5, 1, 1);
        x.test(0, 0, 0, 7, 0, 4);
        tallyIs(c, "on 7", x, 5, 2, 2);
    }

    /** "The latest told that has the hour and whose DAY is not behind counts." */
    private static void theLatestTold(Check c) {
        YoungBuyers x = oneShop();
        x.shop(0, 0, 0, 0);
        x.clerk(1, 0, 8, 12, 4);
        x.clerk(2, 0, 8, 12, 2);
        x.clerk(3, 0, 10, 11, 3);
        x.clerk(4, 1, 0, 24, 0);
        x.days(5);
        x.test(0, 0, 0, 1, 9, 4);
        tallyIs(c, "nobody on 1", x, 2, 0, 0);
        x.test(0, 0, 0, 2, 9, 4);
        tallyIs(c, "2 on 2", x, 2, 1, 1);
        x.test(0, 0, 0, 4, 9, 4);
        tallyIs(c, "told later, though of an earlier day", x, 2, 2, 2);
        tallyIs(c, "told ahead of it", x, 1, 0, 0);
        x.test(0, 0, 0, 4, 10, 4);
        tallyIs(c, "3 at 10", x, 3, 1, 1);
        x.test(0, 0, 0, 4, 11, 4);
        tallyIs(c, "not 3 at 11", x, 2, 3, 3);
        tallyIs(c, "in another shop", x, 4, 0, 0);
        x.test(1, 0, 0, 4, 10, 0);
        tallyIs(c, "in another shop", x, 4, 1, 0);
        x.clerk(2, 0, 10, 11, 5);
        tallyIs(c, "told later from a later day on", x, 3, 1, 1);
    }

    /** "what 0 TESTS, 1 SOLD. -1; -2." */
    private static void tallyArguments(Check c) {
        Twins.Town t = Twins::busy;
        int[] tests = {0, 4, 0, 0, 0, 0, 0, 0, 0, 1};
        Twins.range(c, "clerk", t, Twins.of(0, 9), Twins.of(-1, -1), (x, v) -> x.tally(v, 0), v -> tests[v]);
        int[] due = {4, 4};
        Twins.range(c, "what", t, Twins.of(0, 1), Twins.of(-2, -2), (x, v) -> x.tally(1, v), v -> due[v]);
        Twins.refuses(c, "clerk, what", t, -1, x -> x.tally(10, 2));
        Twins.refuses(c, "clerk, what", t, -1, x -> x.tally(-1, -1));
    }

    /** "GOOD TESTS (as of now) in which the CLERK stood there, and those SOLD." */
    private static void goodTestsAsOfNow(Check c) {
        YoungBuyers x = oneShop();
        x.clerk(0, 0, 0, 24, 0);
        Check.rule(x, "h<12", 0, 0);
        x.test(0, 0, 0, 0, 11, 4);
        x.test(0, 0, 0, 0, 12, 4);
        tallyIs(c, "one is good", x, 0, 1, 1);
        x.appeal(0);
        tallyIs(c, "it is voided", x, 0, 0, 0);
        x.test(0, 0, 0, 0, 0, 0);
        tallyIs(c, "one that did not sell", x, 0, 1, 0);
    }

    private static YoungBuyers byHours() {
        YoungBuyers x = oneShop();
        for (int i = 0; i < 10; i++) {
            x.clerk(i, 0, i, i + 1, 0);
        }
        return x;
    }

    private static void stands(YoungBuyers x, int clerk, int tests, int sold) {
        for (int i = 0; i < tests; i++) {
            x.test(0, 0, 0, 0, clerk, i < sold ? 4 : 0);
        }
    }

    /** "Of 2 TESTS or more"; "-9 none". */
    private static void twoTestsOrMore(Check c) {
        Twins.leaves(c, "no clerk at all", YoungBuyers::new, -9, x -> x.worst());
        Twins.leaves(c, "no tests", EdgesClerksTest::byHours, -9, x -> x.worst());
        Twins.leaves(c, "one test each", () -> {
            YoungBuyers x = byHours();
            stands(x, 3, 1, 1);
            stands(x, 4, 1, 1);
            return x;
        }, -9, x -> x.worst());
        YoungBuyers x = byHours();
        stands(x, 3, 1, 1);
        stands(x, 9, 2, 0);
        c.due("two tests, none sold", x.worst(), 9);
        stands(x, 3, 1, 0);
        c.due("two tests, one sold", x.worst(), 3);
        x.appeal(0);
        c.due("one of them is voided", x.worst(), 9);
        stands(x, 0, 3, 0);
        c.due("three tests, none sold", x.worst(), 0);
    }

    /** "The CLERK with the greatest part SOLD (fractions), of several the least." */
    private static void greatestPart(Check c) {
        int[][] rows = {{2, 1, 2, 1, 3}, {2, 1, 4, 2, 3}, {3, 1, 2, 1, 7}, {3, 2, 2, 1, 3}, {50, 49, 49, 48, 3},
            {49, 48, 50, 49, 7}, {2, 2, 3, 3, 3}, {3, 3, 2, 2, 3}, {5, 2, 2, 1, 7}, {5, 3, 2, 1, 3}, {2, 0, 2, 0, 3},
            {2, 0, 9, 1, 7}, {33, 11, 66, 22, 3}, {33, 11, 66, 23, 7}, {33, 12, 66, 23, 3},
            // Alike if cut to hundredths or to thousandths, as fractions they are not.
            {3, 1, 59, 20, 7}, {59, 20, 3, 1, 3}, {49, 1, 50, 1, 3}, {50, 1, 49, 1, 7}, {43, 10, 56, 13, 3},
            {56, 13, 43, 10, 7}};
        for (int[] r : rows) {
            YoungBuyers x = byHours();
            stands(x, 3, r[0], r[1]);
            stands(x, 7, r[2], r[3]);
            c.due(r[1] + " of " + r[0] + " beside " + r[3] + " of " + r[2], x.worst(), r[4]);
            YoungBuyers turned = byHours();
            stands(turned, 7, r[2], r[3]);
            stands(turned, 3, r[0], r[1]);
            c.due("whoever was tested first", turned.worst(), r[4]);
        }
        YoungBuyers first = byHours();
        stands(first, 0, 2, 1);
        stands(first, 9, 2, 1);
        c.due("0 rather than 9", first.worst(), 0);
        stands(first, 9, 1, 1);
        c.due("9 with two thirds", first.worst(), 9);
    }

    /** CLERKS stand in a SHOP, whoever owns it, and whether it is OPEN or SHUT. */
    private static void overASale(Check c) {
        YoungBuyers x = oneShop();
        x.clerk(5, 0, 0, 24, 0);
        x.test(0, 0, 0, 0, 9, 4);
        x.days(1);
        x.sell(0);
        tallyIs(c, "behind a sale", x, 5, 1, 1);
        x.test(0, 0, 0, 1, 9, 4);
        tallyIs(c, "of both owners", x, 5, 2, 2);
        x.open(0, false);
        tallyIs(c, "shut", x, 5, 2, 2);
        c.due("worst", x.worst(), 5);
        c.due("told of a shut shop", x.clerk(6, 0, 0, 24, 1), 2);
        tallyIs(c, "the first owner's", x, 5, 1, 1);
        tallyIs(c, "told later", x, 6, 1, 1);
    }
}
