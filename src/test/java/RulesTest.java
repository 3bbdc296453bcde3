/** Promises 14 to 16: feed, rule, force; and what RULES mean. */
public final class RulesTest {
    public static void main(String[] args) {
        Check c = new Check();
        feed(c);
        ruleRefusals(c);
        faults(c);
        force(c);
        meaning(c);
        c.end();
    }

    private static void feed(Check c) {
        YoungBuyers x = new YoungBuyers();
        c.due("n 0", x.feed(0, 0L), -4);
        c.due("n 9", x.feed(9, 0L), -6);
        for (int i = 1; i <= 9; i++) {
            c.due("feed(8)", x.feed(8, -1L), 8 * i);
        }
        c.due("feed(1)", x.feed(1, 0L), 73);
        c.due("feed(8): 81", x.feed(8, 0L), -6);
        c.due("feed(7): 80", x.feed(7, 0L), 80);
        c.due("feed(1): 81", x.feed(1, 0L), -6);
        c.due("n 0 at the end", x.feed(0, 0L), -4);
        c.due("count(17)", x.count(17), 80);
        YoungBuyers low = new YoungBuyers();
        c.due("a<b, lowest first, the rest cut", low.feed(3, 0x7A7A7A7A7A623C61L), 3);
        c.due("it is a rule", low.rule(0, 0), 0);
    }

    private static void ruleRefusals(Check c) {
        YoungBuyers x = new YoungBuyers();
        x.days(5);
        Check.feed(x, "s");
        c.due("use -1", x.rule(-1, 0), -2);
        c.due("use 5", x.rule(5, 0), -2);
        c.due("day ahead of now", x.rule(0, 4), -4);
        c.due("day above 2000", x.rule(0, 2001), -6);
        c.due("the tape stays", x.count(17), 1);
        c.due("a rule", x.rule(0, 5), 0);
        c.due("the tape has none", x.count(17), 0);
        for (int i = 1; i < 20; i++) {
            c.due("rule " + i, Check.rule(x, "s", i % 5, 2000), i);
        }
        c.due("a faulty one, no room", Check.rule(x, "e", 0, 5), -6);
        c.due("the tape stays", x.count(17), 1);
        c.due("count(4)", x.count(4), 20);
        c.due("count(16)", x.count(16), 2);

        YoungBuyers y = new YoungBuyers();
        c.due("a fault", Check.rule(y, "sx", 0, 0), -21);
        c.due("the tape has none", y.count(17), 0);
        c.due("no rule", y.count(4), 0);
        for (int what = 11; what <= 16; what++) {
            c.due("nothing is counted", y.count(what), 0);
        }
    }

    private static void faults(Check c) {
        fault(c, "", 0);
        fault(c, "a", -1);
        fault(c, "abc", 1);
        fault(c, "e", 0);
        fault(c, "A", 0);
        fault(c, " a", 0);
        fault(c, "a ", 1);
        fault(c, "a+", 2);
        fault(c, "a+<", 2);
        fault(c, "-1", 0);
        fault(c, "a<b<c", 3);
        fault(c, "a<b+c-d", -1);
        fault(c, "a=b=c", 3);
        fault(c, "a<=b", 2);
        fault(c, "a&", 2);
        fault(c, "a|", 2);
        fault(c, "a&&b", 2);
        fault(c, "a|&b", 2);
        fault(c, "!", 1);
        fault(c, "a!", 1);
        fault(c, "a!b", 1);
        fault(c, "a&!b|!(c)", -1);
        fault(c, "()", 1);
        fault(c, "(a", 2);
        fault(c, "a)", 1);
        fault(c, "(a))", 3);
        fault(c, "(a)<b", 3);
        fault(c, "(a)+b", 3);
        fault(c, "a+(b)", 2);
        fault(c, "a<(b)", 2);
        fault(c, "(a)(b)", 3);
        fault(c, "1234", -1);
        fault(c, "0000", -1);
        fault(c, "12345", 4);
        fault(c, "a<12345", 6);
        fault(c, "(12345)", 5);
        fault(c, "1a", 1);
        fault(c, "a1", 1);
        fault(c, "!!!!!!a", -1);
        fault(c, "!!!!!!!a", 6);
        fault(c, "((((((a))))))", -1);
        fault(c, "(((((((a)))))))", 6);
        fault(c, "(!(!(!a)))", -1);
        fault(c, "(!(!(!!a)))", 6);
        fault(c, "(!(!(!(a))))", 6);
        fault(c, "!!!!!!a&!!!!!!b|((((((c))))))", -1);
        fault(c, "((((((a)&!b)))))", -1);
        fault(c, "((((((a)&!!b)))))", 10);
        fault(c, "((((((a))))))&!(!(!(!a)))", 20);
        fault(c, "a" + "\u00e9", 1);
        fault(c, "a" + "\u0000", 1);
        fault(c, "a+a+a+a+a+a+a+a+a+a+a+a+a+a+a+a+a+a+a+a+a+a+a+a+a+a+a+a+a+a+a+a+a+a+a+a+a+a+a+a+", 80);
        fault(c, "a|a|a|a|a|a|a|a|a|a|a|a|a|a|a|a|a|a|a|a|a|a|a|a|a|a|a|a|a|a|a|a|a|a|a|a|a|a|a|99", -1);
        fault(c, "s&s&s&s&s&s&s&s&s&s&s&s&s&s&s&s&s&s&s&s&s&s&s&s&s&s&s&s&s&s&s&s&s&s&s&s&s&s&s&99", -1);
        for (int sign = 0; sign < 256; sign++) {
            boolean stands = "abcdghkmnopsy0123456789".indexOf(sign) >= 0;
            boolean begins = sign == '!' || sign == '(';
            fault(c, String.valueOf((char) sign), stands ? -1 : begins ? 1 : 0);
        }
    }

    private static void fault(Check c, String text, int place) {
        YoungBuyers x = new YoungBuyers();
        c.due("rule of " + text, Check.rule(x, text, 0, 0), place < 0 ? 0 : -20 - place);
    }

    private static void force(Check c) {
        YoungBuyers x = new YoungBuyers();
        c.due("use 5", x.force(5, -1), -2);
        c.due("use -1", x.force(-1, -1), -2);
        c.due("day -1", x.force(0, -1), -4);
        c.due("day 2001", x.force(0, 2001), -6);
        c.due("none", x.force(4, 2000), -9);
        Check.rule(x, "s", 1, 10);
        Check.rule(x, "s", 1, 5);
        Check.rule(x, "s", 1, 10);
        Check.rule(x, "s", 1, 7);
        Check.rule(x, "s", 2, 6);
        int[][] due = {{0, -9}, {4, -9}, {5, 1}, {6, 1}, {7, 3}, {9, 3}, {10, 2}, {2000, 2}};
        for (int[] d : due) {
            c.due("force(1, " + d[0] + ")", x.force(1, d[0]), d[1]);
        }
        c.due("none is no refusal", x.count(11) + x.count(13) + x.count(15), 0);
    }

    /** One TEST, at 9 o'clock, NEAR and SOLD, by a CHILD of 13 who looks 16. */
    private static void meaning(Check c) {
        holds(c, "s", true);
        holds(c, "c", false);
        holds(c, "!c", true);
        holds(c, "!s", false);
        holds(c, "!!s", true);
        holds(c, "h", true);
        holds(c, "0", false);
        holds(c, "a-b", false);
        holds(c, "b-a", true);
        holds(c, "a-a", false);
        holds(c, "!a-b", true);
        holds(c, "b=16", true);
        holds(c, "a=13&h=9", true);
        holds(c, "a=13&h=10", false);
        holds(c, "a=0|h=9", true);
        holds(c, "s|c&c", true);
        holds(c, "(s|c)&c", false);
        holds(c, "c&c|s", true);
        holds(c, "c&(c|s)", false);
        holds(c, "!c&c", false);
        holds(c, "!(c&c)", true);
        holds(c, "!a<b", false);
        holds(c, "!a>b", true);
        holds(c, "20-a-h<0", true);
        holds(c, "20-a+h>15", true);
        holds(c, "0<a-b+4", true);
        holds(c, "0<a-b+3", false);
        holds(c, "d=999&m=99&o+p+y+k+n=0", true);
        holds(c, "a<0013", false);
        holds(c, "9999>9998", true);
        holds(c, "c-1|0", false);
        holds(c, "c-1=0-1", true);
        holds(c, "c-1&s", false);
        holds(c, "g&s&!c", true);
        holds(c, "c|c", false);
        holds(c, "0|c-1", false);
        holds(c, "s&s&s&s&s&s&s&s&s&s&s&s&s&s&s&s&s&s&s&s&s&s&s&s&s&s&s&s&s&s&s&s&s&s&s&s&s&s&s&c", false);
        holds(c, "c|c|c|c|c|c|c|c|c|c|c|c|c|c|c|c|c|c|c|c|c|c|c|c|c|c|c|c|c|c|c|c|c|c|c|c|c|c|c|s", true);
        holds(c, "h-1-1-1-1-1-1-1-1-1=0&c+s+s+s+s+s+s+s+s+s+s+s+s+s+s+s+s+s+s+s+s+s+s+s+s+s+s=27-1", true);
    }

    private static void holds(Check c, String text, boolean due) {
        YoungBuyers x = new YoungBuyers();
        x.shop(0, 0, 0, 0);
        x.child(0, -5000);
        x.guess(0, 16);
        x.test(0, 0, 0, 0, 9, 5);
        c.due("a rule: " + text, Check.rule(x, text, 0, 0), 0);
        c.due("good by " + text, x.testOf(0, 0, 1), due ? 1 : 0);
    }
}
