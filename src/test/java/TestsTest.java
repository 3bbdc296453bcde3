/** Promises 17 to 22: test, appeal, testOf, fact, step, lost. */
public final class TestsTest {
    public static void main(String[] args) {
        Check c = new Check();
        test(c);
        testDays(c);
        roomForTests(c);
        appeal(c);
        asOf(c);
        facts(c);
        factRefusals(c);
        steps(c);
        knownLater(c);
        owners(c);
        laterRules(c);
        childAnew(c);
        lost(c);
        c.end();
    }

    private static YoungBuyers oneShop() {
        YoungBuyers x = new YoungBuyers();
        x.shop(0, 0, 0, 0);
        x.child(0, -5000);
        return x;
    }

    private static void test(Check c) {
        YoungBuyers x = oneShop();
        c.due("no shop", x.test(1, 0, 0, 0, 0, 8), -1);
        c.due("no shop", x.test(-1, 0, 0, 0, 0, 8), -1);
        c.due("no child", x.test(0, 8, 0, 0, 0, 8), -1);
        c.due("no child", x.test(0, -1, 0, 0, 0, 8), -1);
        c.due("no grown one", x.test(0, 0, 4, 0, 0, 8), -1);
        c.due("no grown one", x.test(0, 0, -1, 0, 0, 8), -1);
        c.due("bits 8, not told", x.test(0, 1, 0, 0, 0, 8), -2);
        c.due("bits -1", x.test(0, 0, 0, 0, 0, -1), -2);
        c.due("not told, behind now", x.test(0, 1, 0, 1, -1, 7), -5);
        c.due("behind now, hour -1", x.test(0, 0, 0, 1, -1, 7), -3);
        c.due("day -1", x.test(0, 0, 0, -1, 0, 7), -3);
        c.due("hour -1", x.test(0, 0, 3, 0, -1, 7), -4);
        c.due("hour 24", x.test(0, 0, 3, 0, 24, 7), -6);
        c.due("hour 23", x.test(0, 0, 3, 0, 23, 7), 0);
        x.open(0, false);
        c.due("shut", x.test(0, 0, 0, 0, 24, 7), -3);
        x.open(0, true);
        c.due("open", x.test(0, 0, 0, 0, 0, 0), 1);
        c.due("count(5)", x.count(5), 2);
    }

    private static void testDays(Check c) {
        YoungBuyers x = oneShop();
        x.days(10);
        x.shop(0, 0, 0, 0);
        c.due("the second shop was not told by 9", x.test(1, 0, 0, 9, 0, 0), -3);
        c.due("the first one was", x.test(0, 0, 0, 4, 0, 0), 0);
        c.due("ahead of the test ahead", x.test(0, 0, 0, 3, 0, 0), -3);
        c.due("on its day", x.test(0, 0, 0, 4, 0, 0), 1);
        c.due("on the day on which it was told", x.test(1, 0, 0, 10, 0, 0), 2);
        x.appeal(2);
        c.due("ahead of a voided one", x.test(0, 0, 0, 9, 0, 0), -3);
        c.due("behind now", x.test(0, 0, 0, 11, 0, 0), -3);
    }

    private static void roomForTests(Check c) {
        YoungBuyers x = oneShop();
        x.days(5);
        for (int i = 0; i < 100; i++) {
            c.due("test " + i, x.test(0, 0, 0, 5, 1, 4), i);
        }
        c.due("a 101st", x.test(0, 0, 0, 5, 1, 4), -6);
        c.due("a 101st at -1", x.test(0, 0, 0, 5, -1, 4), -4);
        c.due("a 101st ahead of the one ahead", x.test(0, 0, 0, 4, 1, 4), -3);
        c.due("count(5)", x.count(5), 100);
        c.due("count(7)", x.count(7), 100);
        c.due("the last one's facts", x.fact(99, 5, 'k'), 99);
        c.due("the last one's facts", x.fact(99, 5, 'p'), 99);
    }

    private static void appeal(Check c) {
        YoungBuyers x = oneShop();
        c.due("no test", x.appeal(0), -1);
        x.test(0, 0, 0, 0, 0, 4);
        c.due("test -1", x.appeal(-1), -1);
        c.due("voided", x.appeal(0), 1);
        c.due("it was", x.appeal(0), -3);
        x.days(1);
        c.due("it was, a day ago", x.appeal(0), -3);
        c.due("count(6)", x.count(6), 1);
        c.due("count(5)", x.count(5), 1);
        c.due("count(7)", x.count(7), 0);
    }

    private static void asOf(Check c) {
        YoungBuyers x = oneShop();
        x.days(10);
        x.test(0, 0, 0, 3, 0, 4);
        x.days(10);
        x.appeal(0);
        c.due("no test, what 3", x.testOf(1, -1, 3), -1);
        c.due("what 3, k -1", x.testOf(0, -1, 3), -2);
        c.due("what -1", x.testOf(0, 0, -1), -2);
        c.due("k -1", x.testOf(0, -1, 0), -4);
        c.due("k 2001", x.testOf(0, 2001, 0), -6);
        int[][] due = {{0, 0}, {3, 0}, {9, 0}, {10, 1}, {19, 1}, {20, 0}, {2000, 0}};
        for (int[] d : due) {
            c.due("counts as of " + d[0], x.testOf(0, d[0], 0), d[1]);
            c.due("is good as of " + d[0], x.testOf(0, d[0], 1), d[1]);
            c.due("led nowhere", x.testOf(0, d[0], 2), 0);
        }
    }

    private static void due(Check c, YoungBuyers x, int test, int k, String letters, int... values) {
        for (int i = 0; i < values.length; i++) {
            char letter = letters.charAt(i);
            c.due("fact " + letter + " of " + test + " as of " + k, x.fact(test, k, letter), values[i]);
        }
    }

    private static void facts(Check c) {
        YoungBuyers x = oneShop();
        x.shop(0, 0, 5, 5);
        x.child(1, -3000);
        x.guess(1, 19);
        Check.rule(x, "h<20", 0, 0);
        Check.rule(x, "p>0", 1, 0);
        Check.rule(x, "m>0", 2, 0);
        x.days(100);
        x.test(0, 0, 0, 1, 9, 4);
        x.test(0, 0, 0, 2, 20, 4);
        x.test(0, 1, 0, 10, 10, 6);
        x.test(1, 0, 0, 10, 11, 1);
        x.test(0, 0, 0, 39, 12, 0);
        x.test(0, 0, 0, 40, 13, 4);
        x.test(0, 1, 1, 100, 14, 7);
        due(c, x, 0, 100, "abcdghkmnopsy", 13, 13, 0, 999, 0, 9, 0, 99, 0, 0, 0, 1, 0);
        due(c, x, 1, 100, "abcdghkmnopsy", 13, 13, 0, 1, 0, 20, 1, 99, 0, 1, 1, 1, 0);
        due(c, x, 2, 100, "abcdghkmnopsy", 8, 19, 1, 9, 0, 10, 0, 99, 0, 1, 1, 1, 0);
        due(c, x, 3, 100, "abcdghkmnopsy", 13, 13, 0, 999, 1, 11, 0, 99, 0, 0, 0, 0, 0);
        due(c, x, 4, 100, "abcdghkmnopsy", 13, 13, 0, 29, 0, 12, 2, 0, 0, 2, 2, 0, 1);
        due(c, x, 5, 100, "abcdghkmnopsy", 13, 13, 0, 1, 0, 13, 3, 1, 0, 3, 2, 1, 1);
        due(c, x, 6, 100, "abcdghkmnopsy", 8, 19, 1, 60, 1, 14, 1, 2, 0, 4, 3, 1, 2);
        c.due("it led to step 2", x.testOf(5, 100, 2), 2);
        c.due("it led to no step 3", x.testOf(6, 100, 2), 0);
        x.known(1, 0, true);
        x.guess(1, 21);
        due(c, x, 6, 100, "nb", 1, 21);
        due(c, x, 2, 100, "nb", 1, 21);
        x.days(1);
        x.appeal(2);
        due(c, x, 6, 101, "kopydm", 0, 3, 2, 1, 60, 2);
        due(c, x, 6, 100, "kopydm", 1, 4, 3, 2, 60, 2);
        due(c, x, 4, 101, "kopydm", 2, 1, 1, 0, 38, 99);
    }

    private static void factRefusals(Check c) {
        YoungBuyers x = oneShop();
        c.due("no test, another letter", x.fact(0, -1, 'e'), -1);
        x.days(1);
        x.test(0, 0, 0, 1, 0, 0);
        for (int letter = 0; letter < 256; letter++) {
            boolean is = "abcdghkmnopsy".indexOf(letter) >= 0;
            c.due("letter " + letter, x.fact(0, -1, letter), is ? -4 : -2);
        }
        c.due("letter -159", x.fact(0, -1, 'a' - 256), -2);
        c.due("letter 353", x.fact(0, -1, 'a' + 256), -2);
        c.due("letter 65633", x.fact(0, -1, 'a' + 65536), -2);
        c.due("greatest letter", x.fact(0, -1, Integer.MAX_VALUE), -2);
        c.due("least letter", x.fact(0, -1, Integer.MIN_VALUE), -2);
        c.due("k -1", x.fact(0, -1, 'a'), -4);
        c.due("k 2001", x.fact(0, 2001, 'a'), -6);
        c.due("not known by 0", x.fact(0, 0, 'a'), -3);
        c.due("known by 1", x.fact(0, 1, 'a'), 13);
        x.appeal(0);
        c.due("voided by 1", x.fact(0, 1, 'a'), -3);
    }

    private static void steps(Check c) {
        YoungBuyers x = oneShop();
        for (int use = 1; use <= 4; use++) {
            Check.rule(x, "1", use, 0);
        }
        c.due("no shop, day -1", x.step(1, -1, 0), -1);
        c.due("day -1, k 2001", x.step(0, -1, 2001), -4);
        c.due("day 2001, k -1", x.step(0, 2001, -1), -4);
        c.due("day 2001", x.step(0, 2001, 0), -6);
        c.due("k 2001", x.step(0, 0, 2001), -6);
        x.days(10);
        x.shop(0, 0, 0, 0);
        c.due("not told by 9, k 2001", x.step(1, 9, 2001), -6);
        c.due("not told by 9", x.step(1, 9, 9), -3);
        c.due("told by 10", x.step(1, 10, 9), 0);
        for (int i = 0; i < 6; i++) {
            x.test(0, 0, 0, i, 0, 4);
        }
        for (int i = 0; i < 6; i++) {
            c.due("test " + i + " led to", x.testOf(i, 10, 2), i < 4 ? i + 1 : 0);
            c.due("step on " + i, x.step(0, i, 10), Math.min(4, i + 1));
        }
        c.due("a day far behind", x.step(0, 2000, 2000), 4);
        c.due("as of 9 none was known", x.step(0, 10, 9), 0);
        x.test(0, 0, 0, 10, 0, 0);
        c.due("without a sale no step", x.testOf(6, 10, 2), 0);
        c.due("y of it", x.fact(6, 10, 'y'), 4);
    }

    private static void knownLater(Check c) {
        YoungBuyers x = oneShop();
        Check.rule(x, "1", 1, 0);
        Check.rule(x, "d<3", 2, 0);
        x.days(5);
        x.test(0, 0, 0, 1, 0, 4);
        x.days(5);
        x.test(0, 0, 0, 2, 0, 4);
        x.days(5);
        x.appeal(0);
        c.due("as of 4", x.step(0, 20, 4), 0);
        c.due("as of 5", x.step(0, 20, 5), 1);
        c.due("as of 10", x.step(0, 20, 10), 2);
        c.due("as of 15 the second is the first", x.step(0, 20, 15), 1);
        c.due("on day 1, as of 15", x.step(0, 1, 15), 0);
        c.due("on day 1, as of 14", x.step(0, 1, 14), 1);
        c.due("the second led to 2 as of 14", x.testOf(1, 14, 2), 2);
        c.due("the second led to 1 as of 15", x.testOf(1, 15, 2), 1);
    }

    private static void owners(Check c) {
        YoungBuyers x = oneShop();
        Check.rule(x, "1", 1, 0);
        Check.rule(x, "1", 2, 0);
        x.days(5);
        x.test(0, 0, 0, 5, 0, 4);
        x.sell(0);
        c.due("on the day of the sale the next one has it", x.step(0, 5, 5), 1);
        c.due("the day ahead", x.step(0, 4, 5), 0);
        x.days(5);
        x.test(0, 0, 0, 5, 0, 4);
        x.test(0, 0, 0, 9, 0, 4);
        x.sell(0);
        x.test(0, 0, 0, 10, 0, 4);
        c.due("the second owner on 5", x.step(0, 5, 10), 2);
        c.due("the second owner on 9", x.step(0, 9, 10), 2);
        c.due("the third owner on 10", x.step(0, 10, 10), 1);
        c.due("o anew", x.fact(3, 10, 'o'), 0);
        c.due("p anew", x.fact(3, 10, 'p'), 0);
        c.due("y anew", x.fact(3, 10, 'y'), 0);
        c.due("d anew", x.fact(3, 10, 'd'), 999);
        c.due("m anew", x.fact(3, 10, 'm'), 99);
        c.due("k is of the shop", x.fact(3, 10, 'k'), 3);
    }

    private static void laterRules(Check c) {
        YoungBuyers x = oneShop();
        Check.rule(x, "h<12", 0, 3);
        x.days(3);
        x.test(0, 0, 0, 2, 20, 4);
        x.test(0, 0, 0, 3, 20, 4);
        c.due("on 2 all are good", x.testOf(0, 3, 1), 1);
        c.due("on 3 the rule is in force", x.testOf(1, 3, 1), 0);
        Check.rule(x, "h>12", 0, 3);
        c.due("a later rule of the same day", x.testOf(1, 3, 1), 1);
        c.due("weighed again as of 3", x.testOf(1, 3, 0), 1);
    }

    private static void childAnew(Check c) {
        YoungBuyers x = oneShop();
        x.days(400);
        x.test(0, 0, 0, 0, 0, 0);
        x.test(0, 0, 0, 400, 0, 0);
        c.due("age on the day of the test", x.fact(0, 400, 'a'), 13);
        c.due("looks as its age on that day", x.fact(0, 400, 'b'), 13);
        c.due("age on the day of the test", x.fact(1, 400, 'a'), 14);
        c.due("looks as its age on that day", x.fact(1, 400, 'b'), 14);
        x.child(0, -3650);
        c.due("told anew", x.fact(0, 400, 'a'), 10);
        c.due("told anew", x.fact(1, 400, 'k'), 1);
    }

    private static void lost(Check c) {
        YoungBuyers x = oneShop();
        x.shop(0, 0, 0, 0);
        for (int use = 1; use <= 4; use++) {
            Check.rule(x, "1", use, 0);
        }
        for (int i = 0; i < 3; i++) {
            x.test(0, 0, 0, 0, 0, 4);
            x.test(1, 0, 0, 0, 0, 4);
        }
        c.due("step 3 is not lost", x.lost(), 0);
        x.test(1, 0, 0, 0, 0, 4);
        c.due("one", x.lost(), 1);
        x.test(0, 0, 0, 0, 0, 4);
        c.due("two", x.lost(), 2);
        x.open(0, false);
        c.due("one is shut", x.lost(), 1);
        x.days(1);
        x.sell(1);
        c.due("the other one is sold", x.lost(), 0);
        x.open(0, true);
        c.due("open again", x.lost(), 1);
        x.appeal(0);
        c.due("a test is voided", x.lost(), 0);
    }
}
