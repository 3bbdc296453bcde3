/** Boundary cases of promises 17 to 22, of "Terms" IV, and of the FACTS in "Terms" III. */
public final class EdgesTestsTest {
    private static final String FACTS = "abcdghkmnopsy";

    public static void main(String[] args) {
        Check c = new Check();
        testArguments(c);
        testStates(c);
        testOrder(c);
        toldByThatDay(c);
        aheadOfTheTestAhead(c);
        hundredTests(c);
        bits(c);
        appealArguments(c);
        testOfArguments(c);
        knownByK(c);
        voidedByK(c);
        knownAndVoidedOnOneDay(c);
        factArguments(c);
        factOrder(c);
        countedFacts(c);
        daysAndMonths(c);
        factsOfNow(c);
        goodByItsDay(c);
        fourStepsAtMost(c);
        theStepAheadOnly(c);
        withoutThisTest(c);
        stepArguments(c);
        stepByDays(c);
        lostOnes(c);
        c.end();
    }

    private static YoungBuyers oneShop() {
        YoungBuyers x = new YoungBuyers();
        x.shop(0, 0, 0, 0);
        x.child(0, -5000);
        return x;
    }

    private static YoungBuyers climbing() {
        YoungBuyers x = oneShop();
        for (int use = 1; use <= 4; use++) {
            Check.rule(x, "1", use, 0);
        }
        return x;
    }

    private static YoungBuyers tests(int n) {
        YoungBuyers x = oneShop();
        for (int i = 0; i < n; i++) {
            x.test(0, 0, 0, 0, i % 24, i % 8);
        }
        return x;
    }

    private static YoungBuyers oneTest() {
        YoungBuyers x = oneShop();
        x.test(0, 0, 0, 0, 23, 0);
        return x;
    }

    /** "A SHOP (OPEN), a CHILD, a GROWN one (0 .. 3), a DAY, an hour (0 .. 23), NEAR, ASKED, SOLD". */
    private static void testArguments(Check c) {
        Twins.Town t = Twins::busy;
        Twins.Town open = () -> {
            YoungBuyers x = Twins.busy();
            x.open(5, true);
            return x;
        };
        Twins.range(c, "shop", open, Twins.of(0, 6), Twins.of(-1, -1), (x, v) -> x.test(v, 0, 0, 9, 0, 0), v -> 10);
        Twins.range(c, "grown", t, Twins.of(0, 3), Twins.of(-1, -1), (x, v) -> x.test(0, 0, v, 9, 0, 0), v -> 10);
        Twins.range(c, "bits", t, Twins.of(0, 7), Twins.of(-2, -2), (x, v) -> x.test(0, 0, 0, 9, 0, v), v -> 10);
        Twins.range(c, "hour", t, Twins.of(0, 23), Twins.of(-4, -6), (x, v) -> x.test(0, 0, 0, 9, v, 0), v -> 10);
        Twins.range(c, "day", t, Twins.of(7, 9), Twins.of(-3, -3), (x, v) -> x.test(0, 0, 0, v, 0, 0), v -> 10);
        Twins.refuses(c, "child -1", t, -1, x -> x.test(0, -1, 0, 9, 0, 0));
        Twins.refuses(c, "child 8", t, -1, x -> x.test(0, 8, 0, 9, 0, 0));
        Twins.refuses(c, "child 3, not told", t, -5, x -> x.test(0, 3, 0, 9, 0, 0));
        Twins.refuses(c, "child 7, not told", t, -5, x -> x.test(0, 7, 0, 9, 0, 0));
        c.due("child 2", Twins.busy().test(0, 2, 0, 9, 0, 0), 10);
        c.due("the first test", oneShop().test(0, 0, 3, 0, 23, 7), 0);
    }

    /** "-3 the SHOP is SHUT, was not told by that DAY, DAY behind now or ahead of that of the TEST ahead." */
    private static void testStates(Check c) {
        Twins.Town t = Twins::busy;
        Twins.refuses(c, "shut", t, -3, x -> x.test(5, 0, 0, 9, 0, 0));
        YoungBuyers x = Twins.busy();
        x.open(5, true);
        c.due("open again", x.test(5, 0, 0, 9, 0, 0), 10);
        Twins.refuses(c, "behind now", t, -3, y -> y.test(0, 0, 0, 10, 0, 0));
        Twins.refuses(c, "ahead of the test ahead", t, -3, y -> y.test(0, 0, 0, 6, 0, 0));
        Twins.refuses(c, "a day below 0", EdgesTestsTest::oneShop, -3, y -> y.test(0, 0, 0, -1, 0, 0));
        Twins.refuses(c, "a day above 2000", EdgesTestsTest::oneShop, -3, y -> y.test(0, 0, 0, 2001, 0, 0));
        YoungBuyers last = oneShop();
        last.days(2000);
        c.due("on the last day", last.test(0, 0, 0, 2000, 0, 0), 0);
        c.due("behind the last day", last.test(0, 0, 0, 2001, 0, 0), -3);
    }

    /** "-1; -2; -5; -3; -4; -6": each with the next ones beside it. */
    private static void testOrder(Check c) {
        Twins.Town t = Twins::busy;
        Twins.refuses(c, "no shop and all else", t, -1, x -> x.test(7, 7, 0, 10, -1, 8));
        Twins.refuses(c, "no child and all else", t, -1, x -> x.test(5, 8, 0, 10, -1, 8));
        Twins.refuses(c, "no grown one and all else", t, -1, x -> x.test(5, 7, 4, 10, -1, 8));
        Twins.refuses(c, "bits and all else", t, -2, x -> x.test(5, 7, 0, 10, -1, 8));
        Twins.refuses(c, "bits, hour above", t, -2, x -> x.test(5, 7, 0, 10, 24, -1));
        Twins.refuses(c, "not told and all else", t, -5, x -> x.test(5, 7, 0, 10, -1, 7));
        Twins.refuses(c, "shut, hour below", t, -3, x -> x.test(5, 0, 0, 9, -1, 7));
        Twins.refuses(c, "behind now, hour above", t, -3, x -> x.test(0, 0, 0, 10, 24, 7));
        Twins.Town full = () -> tests(100);
        Twins.refuses(c, "no shop, no room", full, -1, x -> x.test(1, 0, 0, 0, 0, 0));
        Twins.refuses(c, "bits, no room", full, -2, x -> x.test(0, 0, 0, 0, 0, 8));
        Twins.refuses(c, "not told, no room", full, -5, x -> x.test(0, 1, 0, 0, 0, 0));
        Twins.refuses(c, "behind now, no room", full, -3, x -> x.test(0, 0, 0, 1, 0, 0));
        Twins.refuses(c, "hour below, no room", full, -4, x -> x.test(0, 0, 0, 0, -1, 0));
        Twins.refuses(c, "hour above, no room", full, -6, x -> x.test(0, 0, 0, 0, 24, 0));
    }

    private static void toldByThatDay(Check c) {
        Twins.Town told = () -> {
            YoungBuyers x = new YoungBuyers();
            x.child(0, -5000);
            x.days(4);
            x.shop(0, 0, 0, 0);
            x.days(3);
            return x;
        };
        Twins.range(c, "day", told, Twins.of(4, 7), Twins.of(-3, -3), (x, v) -> x.test(0, 0, 0, v, 0, 0), v -> 0);
        YoungBuyers x = told.make();
        x.sell(0);
        c.due("told by 4, though sold on 7", x.test(0, 0, 0, 4, 0, 0), 0);
    }

    private static void aheadOfTheTestAhead(Check c) {
        Twins.Town t = () -> {
            YoungBuyers x = oneShop();
            x.shop(0, 0, 0, 0);
            x.days(9);
            x.test(0, 0, 0, 5, 0, 0);
            return x;
        };
        Twins.range(c, "day", t, Twins.of(5, 9), Twins.of(-3, -3), (x, v) -> x.test(0, 0, 0, v, 0, 0), v -> 1);
        Twins.range(c, "another shop", t, Twins.of(5, 9), Twins.of(-3, -3), (x, v) -> x.test(1, 0, 0, v, 0, 0), v -> 1);
        YoungBuyers x = t.make();
        c.due("the first hour on the same day", x.test(0, 0, 0, 5, 0, 0), 1);
        c.due("a refused one", x.test(0, 0, 0, 8, 24, 0), -6);
        c.due("is not the one ahead", x.test(0, 0, 0, 6, 0, 0), 2);
        c.due("ahead of it", x.test(0, 0, 0, 5, 0, 0), -3);
    }

    /** "TESTS have numbers from 0 on (100 at most)"; "-6 (hour; 100, too)". */
    private static void hundredTests(Check c) {
        c.due("the 99th", tests(98).test(0, 0, 0, 0, 0, 0), 98);
        c.due("the 100th", tests(99).test(0, 0, 0, 0, 0, 0), 99);
        Twins.refuses(c, "a 101st", () -> tests(100), -6, x -> x.test(0, 0, 0, 0, 0, 0));
        YoungBuyers x = tests(100);
        c.due("100 tests", x.count(5), 100);
        c.due("the last one", x.fact(99, 0, 'h'), 3);
        c.due("the last one is voided", x.appeal(99), 1);
        c.due("a voided one makes no room", x.test(0, 0, 0, 0, 0, 0), -6);
        c.due("no 101st", x.appeal(100), -1);
    }

    /** "bits (1 NEAR, 2 ASKED, 4 SOLD: 0 .. 7)." */
    private static void bits(Check c) {
        YoungBuyers x = tests(8);
        for (int i = 0; i < 8; i++) {
            c.due("near of bits " + i, x.fact(i, 0, 'g'), i & 1);
            c.due("asked of bits " + i, x.fact(i, 0, 'c'), i >> 1 & 1);
            c.due("sold of bits " + i, x.fact(i, 0, 's'), i >> 2 & 1);
        }
        c.due("sold ones", x.count(8), 4);
    }

    /** "A TEST is VOIDED: 1. -1; -3 it was." */
    private static void appealArguments(Check c) {
        Twins.Town t = Twins::busy;
        for (int test = 0; test < 10; test++) {
            c.due("test " + test, Twins.busy().appeal(test), test == 3 ? -3 : 1);
        }
        Twins.refuses(c, "test -1", t, -1, x -> x.appeal(-1));
        Twins.refuses(c, "test 10", t, -1, x -> x.appeal(10));
        Twins.refuses(c, "it was voided", t, -3, x -> x.appeal(3));
        YoungBuyers x = Twins.busy();
        c.due("test 0", x.appeal(0), 1);
        c.due("test 0 again", x.appeal(0), -3);
        x.days(1);
        c.due("test 0 a day later", x.appeal(0), -3);
        c.due("voided ones", x.count(6), 2);
        c.due("voided by 9, as it was told once", x.testOf(0, 9, 0), 0);
        c.due("not voided by 8", x.testOf(0, 8, 0), 1);
        x.open(2, false);
        x.sell(2);
        c.due("a test of a shut shop and of the owner ahead", x.appeal(7), 1);
        c.due("it is voided", x.testOf(7, 10, 0), 0);
    }

    /** "-1; -2; -4, -6 K (0 .. 2000)." */
    private static void testOfArguments(Check c) {
        Twins.Town t = Twins::busy;
        int[] due = {1, 1, 2};
        Twins.range(c, "test", t, Twins.of(0, 9), Twins.of(-1, -1), (x, v) -> x.testOf(v, 9, 0), v -> 1);
        Twins.range(c, "what", t, Twins.of(0, 2), Twins.of(-2, -2), (x, v) -> x.testOf(1, 9, v), v -> due[v]);
        Twins.range(c, "k", t, Twins.of(0, 2000), Twins.of(-4, -6), (x, v) -> x.testOf(0, v, 0), v -> v < 7 ? 0 : 1);
        Twins.refuses(c, "no test, what, k", t, -1, x -> x.testOf(10, -1, 3));
        Twins.refuses(c, "what, k below", t, -2, x -> x.testOf(0, -1, 3));
        Twins.refuses(c, "what, k above", t, -2, x -> x.testOf(0, 2001, -1));
    }

    /** "TESTS count that were KNOWN by K"; "when it became KNOWN (that is now)". */
    private static void knownByK(Check c) {
        YoungBuyers x = climbing();
        x.days(6);
        x.test(0, 0, 0, 2, 0, 4);
        x.days(4);
        int[][] due = {{0, 0}, {2, 0}, {5, 0}, {6, 1}, {7, 1}, {10, 1}, {2000, 1}};
        for (int[] d : due) {
            for (int what = 0; what < 3; what++) {
                c.due("what " + what + " as of " + d[0], x.testOf(0, d[0], what), d[1]);
            }
            c.due("step as of " + d[0], x.step(0, 10, d[0]), d[1]);
            c.due("a fact as of " + d[0], x.fact(0, d[0], 's'), d[1] == 1 ? 1 : -3);
        }
    }

    /** "And were not VOIDED by K." */
    private static void voidedByK(Check c) {
        YoungBuyers x = climbing();
        x.test(0, 0, 0, 0, 0, 4);
        x.days(6);
        x.appeal(0);
        x.days(4);
        int[][] due = {{0, 1}, {5, 1}, {6, 0}, {7, 0}, {10, 0}, {2000, 0}};
        for (int[] d : due) {
            for (int what = 0; what < 3; what++) {
                c.due("what " + what + " as of " + d[0], x.testOf(0, d[0], what), d[1]);
            }
            c.due("step as of " + d[0], x.step(0, 10, d[0]), d[1]);
            c.due("a fact as of " + d[0], x.fact(0, d[0], 's'), d[1] == 1 ? 1 : -3);
        }
    }

    private static void knownAndVoidedOnOneDay(Check c) {
        YoungBuyers x = oneShop();
        x.days(5);
        x.test(0, 0, 0, 5, 0, 4);
        x.appeal(0);
        for (int k = 4; k <= 6; k++) {
            c.due("it never counts", x.testOf(0, k, 0), 0);
        }
        YoungBuyers first = oneShop();
        first.test(0, 0, 0, 0, 0, 4);
        first.appeal(0);
        c.due("nor on day 0", first.testOf(0, 0, 0), 0);
        c.due("it was voided", first.appeal(0), -3);
    }

    /** "A FACT (its letter's byte) of a TEST"; "-2 another letter". */
    private static void factArguments(Check c) {
        Twins.Town t = Twins::busy;
        int[] hours = {9, 10, 11, -3, 20, 13, 8, 14, 15, 16};
        for (int test = 0; test < 10; test++) {
            c.due("hour of " + test, Twins.busy().fact(test, 9, 'h'), hours[test]);
        }
        Twins.refuses(c, "test -1", t, -1, x -> x.fact(-1, 9, 'h'));
        Twins.refuses(c, "test 10", t, -1, x -> x.fact(10, 9, 'h'));
        Twins.range(c, "k", EdgesTestsTest::oneTest, Twins.of(0, 2000), Twins.of(-4, -6), (x, v) -> x.fact(0, v, 'h'),
                v -> 23);
        Twins.refuses(c, "k 6, not known by then", t, -3, x -> x.fact(4, 6, 'h'));
        Twins.refuses(c, "k 0, not known by then", t, -3, x -> x.fact(4, 0, 'h'));
        Twins.refuses(c, "voided", t, -3, x -> x.fact(3, 9, 'h'));
        for (int letter = -1; letter <= 256; letter++) {
            boolean is = FACTS.indexOf(letter) >= 0;
            c.isTrue("letter " + letter, Twins.busy().fact(0, 9, letter) == -2 ? !is : is);
        }
        for (int i = 0; i < FACTS.length(); i++) {
            char letter = FACTS.charAt(i);
            Twins.refuses(c, "letter " + letter + " and 256", t, -2, x -> x.fact(0, 9, letter + 256));
            Twins.refuses(c, "letter " + letter + " less 256", t, -2, x -> x.fact(0, 9, letter - 256));
            Twins.refuses(c, "letter " + letter + " and 65536", t, -2, x -> x.fact(0, 9, letter + 65536));
        }
        Twins.refuses(c, "the letter A", t, -2, x -> x.fact(0, 9, 'A'));
    }

    /** "(In this order: -1, -2, -4, -6, -3.)" */
    private static void factOrder(Check c) {
        Twins.Town t = Twins::busy;
        Twins.refuses(c, "no test, letter, k", t, -1, x -> x.fact(10, -1, 'e'));
        Twins.refuses(c, "letter, k below, voided", t, -2, x -> x.fact(3, -1, 'e'));
        Twins.refuses(c, "letter, k above, voided", t, -2, x -> x.fact(3, 2001, 'e'));
        Twins.refuses(c, "k below, voided", t, -4, x -> x.fact(3, -1, 'a'));
        Twins.refuses(c, "k above, voided", t, -6, x -> x.fact(3, 2001, 'a'));
        Twins.refuses(c, "voided", t, -3, x -> x.fact(3, 2000, 'a'));
    }

    /** k, o and p: none ahead, one, two; what does not count, is not GOOD, or is of another is left out. */
    private static void countedFacts(Check c) {
        YoungBuyers x = oneShop();
        x.shop(0, 0, 0, 0);
        x.child(1, -5000);
        Check.rule(x, "h<20", 0, 0);
        x.test(0, 0, 0, 0, 0, 4);
        x.test(0, 0, 0, 0, 20, 4);
        x.test(1, 0, 0, 0, 0, 4);
        x.test(0, 1, 0, 0, 0, 0);
        x.test(0, 0, 0, 0, 19, 4);
        x.test(0, 0, 0, 0, 0, 0);
        int[][] due = {{0, 0, 0}, {1, 1, 1}, {0, 0, 0}, {0, 1, 1}, {2, 2, 1}, {3, 3, 2}};
        for (int i = 0; i < due.length; i++) {
            c.due("k of " + i, x.fact(i, 0, 'k'), due[i][0]);
            c.due("o of " + i, x.fact(i, 0, 'o'), due[i][1]);
            c.due("p of " + i, x.fact(i, 0, 'p'), due[i][2]);
        }
        x.days(1);
        x.appeal(0);
        c.due("k without the first", x.fact(5, 1, 'k'), 2);
        c.due("o without the first", x.fact(5, 1, 'o'), 2);
        c.due("p without the first", x.fact(5, 1, 'p'), 1);
        c.due("k as of the day ahead", x.fact(5, 0, 'k'), 3);
    }

    /** "DAYS since the latest GOOD TEST of that OWNER (999 without)"; "MONTHS (30 DAYS each, cut; 99 without)". */
    private static void daysAndMonths(Check c) {
        YoungBuyers x = oneShop();
        Check.rule(x, "c=0", 0, 0);
        Check.rule(x, "1", 1, 0);
        x.days(2000);
        int[] days = {0, 0, 29, 30, 31, 59, 60, 2000};
        for (int i = 0; i < days.length; i++) {
            // Only the first is GOOD: the others were asked for a card.
            x.test(0, 0, 0, days[i], 0, i == 0 ? 4 : 6);
        }
        int[] months = {99, 0, 0, 1, 1, 1, 2, 66};
        for (int i = 0; i < days.length; i++) {
            c.due("d of " + i, x.fact(i, 2000, 'd'), i == 0 ? 999 : days[i]);
            c.due("m of " + i, x.fact(i, 2000, 'm'), months[i]);
            c.due("y of " + i, x.fact(i, 2000, 'y'), i == 0 ? 0 : 1);
        }
        YoungBuyers later = oneShop();
        Check.rule(later, "1", 1, 0);
        Check.rule(later, "m>0", 2, 0);
        later.days(2000);
        int[] steps = {100, 129, 130, 159, 160};
        int[] since = {99, 0, 1, 0, 1};
        for (int i = 0; i < steps.length; i++) {
            later.test(0, 0, 0, steps[i], 0, 4);
            c.due("m on " + steps[i], later.fact(i, 2000, 'm'), since[i]);
            c.due("d on " + steps[i], later.fact(i, 2000, 'd'), i == 0 ? 999 : steps[i] - steps[i - 1]);
        }
        YoungBuyers far = oneShop();
        far.days(2000);
        far.test(0, 0, 0, 0, 0, 0);
        far.test(0, 0, 0, 998, 0, 0);
        far.test(0, 0, 0, 1997, 0, 0);
        c.due("998 days", far.fact(1, 2000, 'd'), 998);
        c.due("999 days", far.fact(2, 2000, 'd'), 999);
        c.due("no step at all", far.fact(2, 2000, 'm'), 99);
    }

    /** "KNOWN shops, GUESSES as they are now." */
    private static void factsOfNow(Check c) {
        YoungBuyers x = oneShop();
        x.shop(0, 0, 0, 0);
        x.test(0, 0, 0, 0, 0, 0);
        c.due("not known", x.fact(0, 0, 'n'), 0);
        c.due("looks without guesses", x.fact(0, 0, 'b'), 13);
        x.days(1);
        x.known(0, 1, true);
        c.due("known in another shop", x.fact(0, 0, 'n'), 0);
        x.test(1, 0, 0, 1, 0, 0);
        c.due("known in that other shop", x.fact(1, 1, 'n'), 1);
        x.appeal(1);
        x.known(0, 0, true);
        x.guess(0, 25);
        c.due("known now, as of then", x.fact(0, 0, 'n'), 1);
        c.due("guessed now, as of then", x.fact(0, 0, 'b'), 25);
        Check.rule(x, "n=0", 0, 1);
        x.test(0, 0, 0, 1, 0, 0);
        c.due("not good now", x.testOf(2, 1, 1), 0);
        x.sell(0);
        c.due("known there, whoever owns it", x.testOf(2, 1, 1), 0);
        x.known(0, 0, false);
        c.due("good now", x.testOf(2, 1, 1), 1);
    }

    /** "GOOD if the RULE of USE 0 that is in force on its DAY holds for it." */
    private static void goodByItsDay(Check c) {
        YoungBuyers x = oneShop();
        Check.rule(x, "0", 0, 5);
        Check.rule(x, "1", 0, 7);
        x.days(9);
        for (int day = 4; day <= 8; day++) {
            x.test(0, 0, 0, day, 0, 4);
        }
        int[] due = {1, 0, 0, 1, 1};
        for (int i = 0; i < due.length; i++) {
            c.due("good on " + (4 + i), x.testOf(i, 9, 1), due[i]);
            c.due("it counts", x.testOf(i, 9, 0), 1);
        }
        c.due("good ones", x.count(7), 3);
        Check.rule(x, "0", 0, 9);
        c.due("a rule of a later day", x.count(7), 3);
    }

    /** "Goes one STEP up, from y to y and 1 (4 at most)." */
    private static void fourStepsAtMost(Check c) {
        YoungBuyers x = climbing();
        for (int i = 0; i < 6; i++) {
            x.test(0, 0, 0, 0, 0, 4);
            c.due("step behind " + i, x.step(0, 0, 0), Math.min(4, i + 1));
            c.due("it led to", x.testOf(i, 0, 2), i < 4 ? i + 1 : 0);
            c.due("y of it", x.fact(i, 0, 'y'), Math.min(4, i));
        }
        YoungBuyers y = climbing();
        y.test(0, 0, 0, 0, 0, 3);
        c.due("not sold, no step", y.testOf(0, 0, 2), 0);
        c.due("not sold, no step", y.step(0, 0, 0), 0);
    }

    /** The RULE of USE y and 1 alone is asked. */
    private static void theStepAheadOnly(Check c) {
        for (int without = 1; without <= 4; without++) {
            YoungBuyers x = oneShop();
            for (int use = 1; use <= 4; use++) {
                if (use != without) {
                    Check.rule(x, "1", use, 0);
                }
            }
            for (int i = 0; i < 6; i++) {
                x.test(0, 0, 0, 0, 0, 4);
            }
            c.due("without a rule for " + without, x.step(0, 0, 0), without - 1);
        }
    }

    /** "(y, m, o, p, d without this TEST)". */
    private static void withoutThisTest(Check c) {
        String[] first = {"y=0", "m=99", "o=0", "p=0", "d=999", "k=0"};
        for (String text : first) {
            YoungBuyers x = oneShop();
            Check.rule(x, text, 0, 0);
            Check.rule(x, text, 1, 0);
            x.test(0, 0, 0, 0, 0, 4);
            c.due("good by " + text, x.testOf(0, 0, 1), 1);
            c.due("led by " + text, x.testOf(0, 0, 2), 1);
        }
        YoungBuyers x = oneShop();
        Check.rule(x, "1", 1, 0);
        Check.rule(x, "y=1&m=0&o=1&p=1&d=3", 2, 0);
        x.days(3);
        x.test(0, 0, 0, 0, 0, 4);
        x.test(0, 0, 0, 3, 0, 4);
        c.due("the second leads to 2", x.testOf(1, 3, 2), 2);
    }

    /** "-1; -4, -6 DAY, K (0 .. 2000); -3 it was not told by that DAY." */
    private static void stepArguments(Check c) {
        Twins.Town t = Twins::busy;
        int[] due = {4, 0, 2, 0, 0, 0, 0};
        Twins.range(c, "shop", t, Twins.of(0, 6), Twins.of(-1, -1), (x, v) -> x.step(v, 9, 9), v -> due[v]);
        Twins.range(c, "day", t, Twins.of(0, 2000), Twins.of(-4, -6), (x, v) -> x.step(0, v, 9), v -> v < 3 ? 0 : 4);
        Twins.range(c, "k", t, Twins.of(0, 2000), Twins.of(-4, -6), (x, v) -> x.step(0, 9, v), v -> v < 7 ? 0 : 4);
        Twins.refuses(c, "not told by 2", t, -3, x -> x.step(6, 2, 9));
        Twins.refuses(c, "not told by 0", t, -3, x -> x.step(6, 0, 9));
        c.due("told by 3", Twins.busy().step(6, 3, 9), 0);
        c.due("told by 3, as of 0", Twins.busy().step(6, 3, 0), 0);
        Twins.refuses(c, "no shop, day, k", t, -1, x -> x.step(7, -1, 2001));
        Twins.refuses(c, "day above, k below", t, -4, x -> x.step(6, 2001, -1));
        Twins.refuses(c, "day below, k above", t, -4, x -> x.step(6, -1, 2001));
        Twins.refuses(c, "not told, k below", t, -4, x -> x.step(6, 2, -1));
        Twins.refuses(c, "not told, k above", t, -6, x -> x.step(6, 2, 2001));
    }

    /** "That of its OWNER on that DAY, by TESTS of DAYS not behind it." */
    private static void stepByDays(Check c) {
        YoungBuyers x = climbing();
        x.days(20);
        x.test(0, 0, 0, 5, 0, 4);
        x.test(0, 0, 0, 10, 0, 4);
        x.sell(0);
        x.days(1);
        x.test(0, 0, 0, 20, 0, 4);
        x.test(0, 0, 0, 21, 0, 4);
        int[][] due = {{0, 0}, {4, 0}, {5, 1}, {6, 1}, {9, 1}, {10, 2}, {11, 2}, {19, 2}, {20, 1}, {21, 2}, {2000, 2}};
        for (int[] d : due) {
            c.due("step on " + d[0], x.step(0, d[0], 21), d[1]);
        }
        c.due("as of 20 on 21", x.step(0, 21, 20), 0);
        c.due("as of 20 on 19", x.step(0, 19, 20), 2);
        c.due("as of 19 on 19", x.step(0, 19, 19), 0);
    }

    /** "LOST: STEP 4"; "How many SHOPS are OPEN and LOST now, as of now." */
    private static void lostOnes(Check c) {
        YoungBuyers x = climbing();
        c.due("none at first", x.lost(), 0);
        for (int i = 1; i <= 5; i++) {
            x.test(0, 0, 0, 0, 0, 4);
            c.due("step " + i, x.lost(), i >= 4 ? 1 : 0);
        }
        x.open(0, false);
        c.due("shut", x.lost(), 0);
        x.open(0, true);
        c.due("open again", x.lost(), 1);
        x.days(1);
        x.appeal(0);
        c.due("four are left", x.lost(), 1);
        x.appeal(1);
        c.due("three are left", x.lost(), 0);
        c.due("as of the day ahead it was lost", x.step(0, 1, 0), 4);
        x.test(0, 0, 0, 1, 0, 4);
        c.due("lost again", x.lost(), 1);
        x.days(1);
        x.sell(0);
        c.due("the next owner has lost nothing", x.lost(), 0);
        c.due("the one ahead had", x.step(0, 1, 2), 4);
    }
}
