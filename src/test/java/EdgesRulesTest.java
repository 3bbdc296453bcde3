/** Boundary cases of promises 14 to 16 and of "Terms" III. */
public final class EdgesRulesTest {
    private static final String FACTS = "abcdghkmnopsy";

    public static void main(String[] args) {
        Check c = new Check();
        feedArguments(c);
        eightyBytes(c);
        lowestFirst(c);
        ruleArguments(c);
        ruleOrder(c);
        twentyRules(c);
        refusedTheTapeStays(c);
        aFaultIsNotCounted(c);
        faultAtTheEnd(c);
        firstByteThatCanNotStand(c);
        aShorterTextBehindALongerOne(c);
        digits(c);
        sixDeep(c);
        longRules(c);
        sumAlone(c);
        comparisons(c);
        eachFactIsAUnit(c);
        forceArguments(c);
        latestDayNotBehind(c);
        withoutARule(c);
        c.end();
    }

    private static YoungBuyers fed(int bytes) {
        YoungBuyers x = new YoungBuyers();
        for (int i = 0; i < bytes; i += 8) {
            x.feed(Math.min(8, bytes - i), 0x2B732B732B732B73L);
        }
        return x;
    }

    private static YoungBuyers rules(int n) {
        YoungBuyers x = new YoungBuyers();
        for (int i = 0; i < n; i++) {
            Check.rule(x, "s", i % 5, i);
        }
        x.feed(1, 's');
        return x;
    }

    /** "n (1 .. 8) bytes come: how many THE TAPE has. -4; -6 (n; above 80)." Three are there. */
    private static void feedArguments(Check c) {
        Twins.range(c, "n", Twins::busy, Twins.of(1, 8), Twins.of(-4, -6), (x, v) -> x.feed(v, 0L), v -> 3 + v);
        Twins.range(c, "n", YoungBuyers::new, Twins.of(1, 8), Twins.of(-4, -6), (x, v) -> x.feed(v, -1L), v -> v);
    }

    /** "TEXTS (80 bytes at most)." */
    private static void eightyBytes(Check c) {
        for (int has = 71; has <= 80; has++) {
            int bytes = has;
            for (int n = 1; n <= 8; n++) {
                int more = n;
                String name = n + " bytes on " + has;
                if (has + n > 80) {
                    Twins.refuses(c, name, () -> fed(bytes), -6, x -> x.feed(more, 0L));
                } else {
                    c.due(name, fed(has).feed(n, 0L), has + n);
                }
            }
        }
        Twins.refuses(c, "none on 80", () -> fed(80), -4, x -> x.feed(0, 0L));
        Twins.refuses(c, "nine on 80", () -> fed(80), -6, x -> x.feed(9, 0L));
        c.due("80 bytes on the tape", fed(80).count(17), 80);
    }

    private static void lowestFirst(Check c) {
        int[] faults = {0, 1, 2, 3, 4, 5, 6, 7};
        for (int place : faults) {
            // "s" and "+" by turns, but one byte of 255 at that place.
            YoungBuyers x = new YoungBuyers();
            c.due("8 bytes", x.feed(8, 0x2B732B732B732B73L | 255L << 8 * place), 8);
            c.due("a fault at " + place, x.rule(0, 0), -20 - place);
        }
        YoungBuyers x = new YoungBuyers();
        x.feed(1, 0xFFFFFFFFFFFFFF73L);
        c.due("one byte, the others do not come", x.count(17), 1);
        c.due("it is a rule", x.rule(0, 0), 0);
        x.feed(7, 0xFF732D732D732D73L);
        c.due("seven bytes", x.count(17), 7);
        c.due("it is a rule", x.rule(0, 0), 1);
        x.feed(8, 0xF3732D732D732D73L);
        c.due("an eighth above 127 is no letter", x.rule(0, 0), -27);
    }

    /** "A USE (0 .. 4) and a DAY from which they are in force (now or later)"; "-6 DAY above 2000". */
    private static void ruleArguments(Check c) {
        Twins.Town t = Twins::busy;
        Twins.range(c, "use", t, Twins.of(0, 4), Twins.of(-2, -2), (x, v) -> x.rule(v, 9), v -> 6);
        Twins.range(c, "day", t, Twins.of(9, 2000), Twins.of(-4, -6), (x, v) -> x.rule(0, v), v -> 6);
        Twins.Town last = () -> {
            YoungBuyers x = fed(1);
            x.days(2000);
            return x;
        };
        c.due("on the last day", last.make().rule(0, 2000), 0);
        Twins.refuses(c, "the day ahead of it", last, -4, x -> x.rule(0, 1999));
        Twins.refuses(c, "the day behind it", last, -6, x -> x.rule(0, 2001));
    }

    /** "-2 USE; -4 DAY ahead of now; -6 DAY above 2000, 20 RULES." */
    private static void ruleOrder(Check c) {
        Twins.refuses(c, "use, day ahead", Twins::busy, -2, x -> x.rule(5, 8));
        Twins.refuses(c, "use, day above", Twins::busy, -2, x -> x.rule(-1, 2001));
        Twins.Town full = () -> {
            YoungBuyers x = rules(20);
            x.days(1);
            return x;
        };
        Twins.refuses(c, "use, no room", full, -2, x -> x.rule(5, 0));
        Twins.refuses(c, "day ahead, no room", full, -4, x -> x.rule(0, 0));
        Twins.refuses(c, "day above, no room", full, -6, x -> x.rule(0, 2001));
    }

    /** "RULES have numbers from 0 on (20 at most)." */
    private static void twentyRules(Check c) {
        c.due("the first", rules(0).rule(0, 0), 0);
        c.due("the 19th", rules(18).rule(0, 0), 18);
        c.due("the 20th", rules(19).rule(0, 2000), 19);
        Twins.refuses(c, "a 21st", () -> rules(20), -6, x -> x.rule(0, 0));
        Twins.refuses(c, "a 21st of another use", () -> rules(20), -6, x -> x.rule(4, 2000));
        c.due("20 rules", rules(20).count(4), 20);
        c.due("the last in force", rules(20).force(4, 2000), 19);
    }

    /** "(Refused: THE TAPE stays.)" */
    private static void refusedTheTapeStays(Check c) {
        YoungBuyers x = new YoungBuyers();
        x.days(5);
        Check.feed(x, "sx");
        c.due("use", x.rule(5, 5), -2);
        c.due("two bytes", x.count(17), 2);
        c.due("day ahead", x.rule(0, 4), -4);
        c.due("two bytes", x.count(17), 2);
        c.due("day above", x.rule(0, 2001), -6);
        c.due("two bytes", x.count(17), 2);
        c.due("they have a fault", x.rule(0, 5), -21);
        c.due("the tape has none", x.count(17), 0);
        c.due("it goes on from the first byte", x.feed(1, 's'), 1);
        c.due("a rule", x.rule(0, 5), 0);
        c.due("the tape has none", x.count(17), 0);
    }

    /** "If it has a FAULT, -20 less its place (nothing is counted)." */
    private static void aFaultIsNotCounted(Check c) {
        Twins.Town faulty = () -> {
            YoungBuyers x = Twins.busy();
            x.feed(1, '>');
            return x;
        };
        Twins.Town empty = () -> {
            YoungBuyers x = Twins.busy();
            x.rule(4, 2000);
            return x;
        };
        YoungBuyers x = faulty.make();
        int[] before = new int[18];
        for (int what = 0; what < 18; what++) {
            before[what] = x.count(what);
        }
        c.due("a fault", x.rule(0, 9), -23);
        for (int what = 0; what < 17; what++) {
            c.due("count(" + what + ") as before", x.count(what), before[what]);
        }
        c.due("the tape has none", x.count(17), 0);
        Twins.leaves(c, "an empty tape", empty, -20, y -> y.rule(0, 9));
    }

    private static void fault(Check c, String text, int place) {
        YoungBuyers x = new YoungBuyers();
        c.due("rule of " + text, Check.rule(x, text, 0, 0), place < 0 ? 0 : -20 - place);
        c.due("the tape behind it", x.count(17), 0);
        c.due("rules behind it", x.count(4), place < 0 ? 1 : 0);
    }

    private static void stands(Check c, String text) {
        fault(c, text, -1);
    }

    /** "The end, if something lacks." */
    private static void faultAtTheEnd(Check c) {
        String[] lacking = {"", "!", "(", "s+", "s-", "s<", "s=", "s>", "s&", "s|", "(s", "(s&", "!(", "!(s", "((s)",
            "s<s+", "s&!", "s|(", "1+", "9999-"};
        for (String text : lacking) {
            fault(c, text, text.length());
        }
    }

    /** "FAULT: the place of the first byte that can not stand." */
    private static void firstByteThatCanNotStand(Check c) {
        for (int sign = 0; sign < 256; sign++) {
            char s = (char) sign;
            boolean unit = FACTS.indexOf(s) >= 0 || s >= '0' && s <= '9';
            boolean joins = "+-<=>&|".indexOf(s) >= 0;
            boolean opens = s == '!' || s == '(';
            fault(c, String.valueOf(s), unit ? -1 : opens ? 1 : 0);
            fault(c, "s" + s, joins ? 2 : 1);
            fault(c, "s" + s + "s", joins ? -1 : 1);
            fault(c, "s<s" + s + "s", joins && "<=>".indexOf(s) < 0 ? -1 : 3);
            fault(c, "(s)" + s + "s", s == '&' || s == '|' ? -1 : 3);
            fault(c, "s+" + s, unit ? -1 : 2);
            fault(c, "s<" + s, unit ? -1 : 2);
            fault(c, "s&" + s, unit ? -1 : opens ? 3 : 2);
            fault(c, "(s" + s, s == ')' ? -1 : joins ? 3 : 2);
            fault(c, "9" + s, s >= '0' && s <= '9' ? -1 : joins ? 2 : 1);
        }
        fault(c, "!s<s<s", 4);
        fault(c, "s<(s)", 2);
        fault(c, "s+!s", 2);
        stands(c, "!s<s&s");
        stands(c, "(s<s)&(s>s|s=s)");
    }

    /** "THE TAPE becomes a RULE, and has none": nothing of it is left in the next one. */
    private static void aShorterTextBehindALongerOne(Check c) {
        YoungBuyers x = new YoungBuyers();
        c.due("a long one", Check.rule(x, "s+s+s&9999|(s)", 0, 0), 0);
        c.due("a shorter one", Check.rule(x, "s", 0, 0), 1);
        c.due("a number", Check.rule(x, "s+s+s&9", 0, 0), 2);
        c.due("something lacks", Check.rule(x, "s+", 0, 0), -22);
        c.due("a long one with a fault", Check.rule(x, "s+s+s&9999|(s", 0, 0), -33);
        c.due("a shorter one", Check.rule(x, "s+s", 0, 0), 3);
        c.due("nothing", x.rule(0, 0), -20);
    }

    /** "A number of 1 to 4 digits." */
    private static void digits(Check c) {
        stands(c, "1");
        stands(c, "12");
        stands(c, "123");
        stands(c, "1234");
        stands(c, "9999");
        stands(c, "0000");
        fault(c, "12345", 4);
        fault(c, "00000", 4);
        fault(c, "s<12345", 6);
        fault(c, "1234s", 4);
        fault(c, "(12345)", 5);
        fault(c, "1234+12345", 9);
        stands(c, "1234+1234-1234<1234");
        holds(c, "9999=9998+1", true);
        holds(c, "0010=10", true);
        holds(c, "0099>98", true);
        holds(c, "9999+9999+9999>9999+9999", true);
    }

    /** "Brackets and ! are 6 deep at most, together"; "of a seventh bracket or ! its own". */
    private static void sixDeep(Check c) {
        for (int row = 0; row < 128; row++) {
            StringBuilder text = new StringBuilder();
            StringBuilder ends = new StringBuilder();
            for (int i = 0; i < 7; i++) {
                if (i == 5 || i == 6) {
                    stands(c, text + "s" + ends);
                }
                boolean bracket = (row >> i & 1) == 1;
                text.append(bracket ? '(' : '!');
                ends.append(bracket ? ")" : "");
            }
            fault(c, text + "s" + ends, 6);
        }
        stands(c, "((((((s))))))&((((((s))))))");
        stands(c, "!!!!!!s|!!!!!!s");
        stands(c, "((((((s)))&!!!s)))");
        fault(c, "((((((s)))&!!!!s)))", 14);
        fault(c, "((((((s)))&((((s)))))))", 14);
        stands(c, "(((((!s|!s)))))");
        fault(c, "(((((!s|!!s)))))", 9);
        fault(c, "((((((x(s))))))", 6);
        fault(c, "((((((s(s))))))", 7);
    }

    private static void longRules(Check c) {
        String pairs = "s+s+s+s+s+s+s+s+s+s+s+s+s+s+s+s+s+s+s+s+s+s+s+s+s+s+s+s+s+s+s+s+s+s+s+s+s+s+s+s+";
        c.due("80 bytes", pairs.length(), 80);
        stands(c, pairs.substring(0, 79));
        fault(c, pairs, 80);
        stands(c, pairs.substring(0, 78) + "99");
        fault(c, pairs.substring(0, 79) + ")", 79);
        fault(c, pairs.substring(0, 78) + "(s", 78);
        holds(c, pairs.substring(0, 76) + "s=40", false);
        holds(c, pairs.substring(0, 76) + "s=39", true);
        holds(c, pairs.substring(0, 76) + "s>38", true);
        holds(c, pairs.substring(0, 76) + "s<40", true);
        holds(c, "((((((" + pairs.substring(0, 64) + "s=33))))))", true);
    }

    /** "A SUM alone holds if it is above 0." */
    private static void sumAlone(Check c) {
        holds(c, "0", false);
        holds(c, "1", true);
        holds(c, "0-1", false);
        holds(c, "1-1", false);
        holds(c, "2-1", true);
        holds(c, "1-2", false);
        holds(c, "!0", true);
        holds(c, "!1", false);
        holds(c, "!1-1", true);
        holds(c, "!1-2", true);
        holds(c, "!2-1", false);
        holds(c, "2&1", true);
        holds(c, "2&1-1", false);
        holds(c, "2&1-2", false);
        holds(c, "0&1", false);
        holds(c, "1-2&1", false);
        holds(c, "1&1", true);
        holds(c, "0|0", false);
        holds(c, "0|1", true);
        holds(c, "1|0", true);
        holds(c, "1-2|1-3", false);
        holds(c, "1-2|1-1|3-2", true);
    }

    /** At, below and above; of three joined by + and - the left ones first. */
    private static void comparisons(Check c) {
        holds(c, "h<8", false);
        holds(c, "h<9", false);
        holds(c, "h<10", true);
        holds(c, "h=8", false);
        holds(c, "h=9", true);
        holds(c, "h=10", false);
        holds(c, "h>8", true);
        holds(c, "h>9", false);
        holds(c, "h>10", false);
        holds(c, "0-9<0-8", true);
        holds(c, "0-9>0-8", false);
        holds(c, "9-5-4=0", true);
        holds(c, "9-5+4=8", true);
        holds(c, "8=9-5+4", true);
        holds(c, "0|1&0", false);
        holds(c, "1|1&0", true);
        holds(c, "(1|1)&0", false);
        holds(c, "!0&0", false);
        holds(c, "!(0&0)", true);
        holds(c, "!0|1", true);
        holds(c, "!(0|1)", false);
    }

    private static void eachFactIsAUnit(Check c) {
        int[] due = {13, 16, 0, 999, 1, 9, 0, 99, 0, 0, 0, 1, 0};
        for (int i = 0; i < FACTS.length(); i++) {
            holds(c, FACTS.charAt(i) + "=" + due[i], true);
            holds(c, FACTS.charAt(i) + ">" + due[i], false);
            holds(c, FACTS.charAt(i) + "<" + due[i], false);
        }
    }

    /** One TEST at 9 o'clock, NEAR and SOLD, by a CHILD of 13 who looks 16. */
    private static void holds(Check c, String text, boolean due) {
        YoungBuyers x = new YoungBuyers();
        x.shop(0, 0, 0, 0);
        x.child(0, -5000);
        x.guess(0, 16);
        x.test(0, 0, 0, 0, 9, 5);
        c.due("a rule: " + text, Check.rule(x, text, 0, 0), 0);
        c.due("good by " + text, x.testOf(0, 0, 1), due ? 1 : 0);
        c.due("the same as a rule of step 1: " + text, Check.rule(x, text, 1, 0), 1);
        c.due("led to 1 by " + text, x.testOf(0, 0, 2), due ? 1 : 0);
    }

    /** "The RULE in force for a USE on a DAY (0 .. 2000); -9 none. -2; -4; -6." */
    private static void forceArguments(Check c) {
        Twins.Town t = Twins::busy;
        int[] due = {0, 1, 2, 3, 4};
        Twins.range(c, "use", t, Twins.of(0, 4), Twins.of(-2, -2), (x, v) -> x.force(v, 7), v -> due[v]);
        Twins.range(c, "day", t, Twins.of(0, 2000), Twins.of(-4, -6), (x, v) -> x.force(0, v), v -> v < 8 ? 0 : 5);
        Twins.refuses(c, "use, day below", t, -2, x -> x.force(5, -1));
        Twins.refuses(c, "use, day above", t, -2, x -> x.force(-1, 2001));
        Twins.leaves(c, "none", t, -9, x -> x.force(3, 1));
        Twins.leaves(c, "none on the first day", YoungBuyers::new, -9, x -> x.force(0, 0));
        Twins.leaves(c, "none on the last day", YoungBuyers::new, -9, x -> x.force(4, 2000));
    }

    /** "The one with the latest DAY not behind it, of several the greatest number." */
    private static void latestDayNotBehind(Check c) {
        YoungBuyers x = new YoungBuyers();
        Check.rule(x, "s", 2, 2000);
        Check.rule(x, "s", 2, 7);
        Check.rule(x, "s", 2, 5);
        Check.rule(x, "s", 2, 7);
        Check.rule(x, "s", 2, 6);
        Check.rule(x, "s", 2, 2000);
        Check.rule(x, "s", 1, 0);
        int[][] due = {{0, -9}, {4, -9}, {5, 2}, {6, 4}, {7, 3}, {8, 3}, {1999, 3}, {2000, 5}};
        for (int[] d : due) {
            c.due("force(2, " + d[0] + ")", x.force(2, d[0]), d[1]);
        }
        c.due("from the first day on", x.force(1, 0), 6);
        x.days(10);
        c.due("as before when days pass", x.force(2, 5), 2);
    }

    /** "Without one: USE 0: all TESTS are GOOD; others: never." */
    private static void withoutARule(Check c) {
        YoungBuyers x = new YoungBuyers();
        x.shop(0, 0, 0, 0);
        x.child(0, -5000);
        x.days(3);
        Check.rule(x, "0", 0, 4);
        Check.rule(x, "1", 1, 4);
        x.days(2);
        x.test(0, 0, 0, 3, 0, 4);
        x.test(0, 0, 0, 4, 0, 4);
        c.due("on 3 all are good", x.testOf(0, 5, 1), 1);
        c.due("on 3 none goes up", x.testOf(0, 5, 2), 0);
        c.due("on 4 none is good", x.testOf(1, 5, 1), 0);
        c.due("what is not good goes not up", x.testOf(1, 5, 2), 0);
        Check.rule(x, "1", 0, 5);
        x.test(0, 0, 0, 5, 0, 4);
        x.test(0, 0, 0, 5, 0, 4);
        c.due("on 5 it goes up", x.testOf(2, 5, 2), 1);
        c.due("to 2 never", x.testOf(3, 5, 2), 0);
    }
}
