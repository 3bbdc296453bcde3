/** Boundary cases of promises 33 to 35, of what "Terms" VII says of COST, and of the paragraph REFUSALS. */
public final class EdgesCostTest {
    public static void main(String[] args) {
        Check c = new Check();
        costs(c);
        mostArguments(c);
        noShopIsOpen(c);
        budgetAtMost(c);
        fractionsOfABudget(c);
        greatestOfSeveral(c);
        zeroIfNone(c);
        greatestBudget(c);
        mostLeavesTheDraw(c);
        countArguments(c);
        countsAtTheirEnds(c);
        refusalsAreCounted(c);
        whatIsNoRefusal(c);
        c.end();
    }

    private static YoungBuyers shops(int n) {
        YoungBuyers x = new YoungBuyers();
        for (int i = 0; i < n; i++) {
            x.shop(i % 5, 0, 0, 0);
        }
        return x;
    }

    /** "COST of a TEST by KIND of SHOP (0 .. 500; 20 at first)"; "-2; -4; -6." */
    private static void costs(Check c) {
        Twins.Town t = Twins::busy;
        Twins.range(c, "kind", t, Twins.of(0, 4), Twins.of(-2, -2), (x, v) -> x.cost(v, 7), v -> v == 1 ? 35 : 20);
        Twins.range(c, "v", t, Twins.of(0, 500), Twins.of(-4, -6), (x, v) -> x.cost(1, v), v -> 35);
        Twins.refuses(c, "kind, below", t, -2, x -> x.cost(5, -1));
        Twins.refuses(c, "kind, above", t, -2, x -> x.cost(-1, 501));
        YoungBuyers x = new YoungBuyers();
        for (int kind = 0; kind < 5; kind++) {
            int was = 20;
            for (int v : new int[] {0, 1, 499, 500, 500}) {
                c.due("what it was", x.cost(kind, v), was);
                was = v;
            }
        }
    }

    /** "A BUDGET (0 .. 20000)"; "-3 no SHOP is OPEN; -4; -6." All six OPEN ones cost 135. */
    private static void mostArguments(Check c) {
        Twins.range(c, "budget", Twins::busy, Twins.of(0, 20000), Twins.of(-4, -6), YoungBuyers::most,
                v -> v < 20 ? 0 : 40);
    }

    private static void noShopIsOpen(Check c) {
        Twins.Town shut = () -> {
            YoungBuyers x = shops(1);
            x.open(0, false);
            return x;
        };
        for (int budget : new int[] {-1, 0, 20000, 20001}) {
            Twins.refuses(c, "no shop, budget " + budget, YoungBuyers::new, -3, x -> x.most(budget));
            Twins.refuses(c, "all shut, budget " + budget, shut, -3, x -> x.most(budget));
        }
        YoungBuyers x = shut.make();
        x.open(0, true);
        c.due("one is open", x.most(20), 40);
    }

    /** "The sum of PARTS times COST is BUDGET at most": with WEIGHTS alike n costs 20 times n. */
    private static void budgetAtMost(Check c) {
        YoungBuyers x = shops(4);
        int[][] due = {{0, 0}, {19, 0}, {20, 1}, {21, 1}, {39, 1}, {40, 2}, {41, 2}, {59, 2}, {60, 3}, {61, 3}, {79, 3},
            {80, 40}, {81, 40}};
        for (int[] d : due) {
            c.due("most(" + d[0] + ")", x.most(d[0]), d[1]);
        }
        x.open(3, false);
        c.due("a shut one costs nothing: 59", x.most(59), 2);
        c.due("a shut one costs nothing: 60", x.most(60), 40);
        YoungBuyers all = shops(40);
        c.due("39 of 40", all.most(799), 39);
        c.due("39 of 40 just so", all.most(780), 39);
        c.due("38 of 40", all.most(779), 38);
        c.due("40 of 40", all.most(800), 40);
    }

    /** "(As a fraction)": nothing is cut. */
    private static void fractionsOfABudget(Check c) {
        YoungBuyers x = shops(3);
        x.cost(0, 10);
        x.cost(1, 0);
        x.cost(2, 0);
        // 10 by 3, 20 by 3, 10.
        int[][] due = {{0, 0}, {3, 0}, {4, 1}, {6, 1}, {7, 2}, {9, 2}, {10, 40}};
        for (int[] d : due) {
            c.due("thirds: most(" + d[0] + ")", x.most(d[0]), d[1]);
        }
        x.cost(0, 9);
        int[][] whole = {{2, 0}, {3, 1}, {5, 1}, {6, 2}, {8, 2}, {9, 40}};
        for (int[] d : whole) {
            c.due("whole: most(" + d[0] + ")", x.most(d[0]), d[1]);
        }
        // 20 of 22 twice is above 1 and sure: 9, and a half of 1 each of the others.
        x.weight(0, 20);
        x.cost(1, 1);
        x.cost(2, 2);
        int[][] sure = {{8, 0}, {9, 1}, {10, 1}, {11, 2}, {12, 40}};
        for (int[] d : sure) {
            c.due("sure: most(" + d[0] + ")", x.most(d[0]), d[1]);
        }
    }

    /** "The greatest n": of several that cost the same, too. */
    private static void greatestOfSeveral(Check c) {
        YoungBuyers x = shops(2);
        x.cost(0, 0);
        x.cost(1, 0);
        c.due("all for nothing", x.most(0), 40);
        YoungBuyers more = shops(5);
        for (int kind = 0; kind < 5; kind++) {
            more.cost(kind, 4 * kind);
        }
        int[][] due = {{0, 0}, {7, 0}, {8, 1}, {15, 1}, {16, 2}, {31, 3}, {32, 4}, {39, 4}, {40, 40}};
        for (int[] d : due) {
            c.due("by kinds: most(" + d[0] + ")", more.most(d[0]), d[1]);
        }
    }

    /** "0 if none." */
    private static void zeroIfNone(Check c) {
        YoungBuyers x = shops(1);
        x.cost(0, 500);
        c.due("499", x.most(499), 0);
        c.due("500", x.most(500), 40);
        x.cost(0, 1);
        c.due("0", x.most(0), 0);
        c.due("1", x.most(1), 40);
        c.due("none is no refusal", x.count(13) + x.count(14) + x.count(16), 0);
    }

    private static void greatestBudget(Check c) {
        YoungBuyers x = shops(40);
        for (int kind = 0; kind < 5; kind++) {
            x.cost(kind, 500);
        }
        for (int i = 0; i < 40; i++) {
            x.weight(i, 20);
        }
        c.due("20000", x.most(20000), 40);
        c.due("19999", x.most(19999), 39);
        c.due("19500", x.most(19500), 39);
        c.due("19499", x.most(19499), 38);
    }

    private static void mostLeavesTheDraw(Check c) {
        Twins.leaves(c, "most", Twins::busy, 40, x -> x.most(20000));
        Twins.leaves(c, "most of none", Twins::busy, 0, x -> x.most(0));
    }

    /** "-9 for another what." */
    private static void countArguments(Check c) {
        for (int what : new int[] {Integer.MIN_VALUE, -1, 18, 19, Integer.MAX_VALUE}) {
            Twins.leaves(c, "count(" + what + ")", Twins::busy, -9, x -> x.count(what));
        }
        int[] due = {9, 7, 6, 3, 6, 10, 1, 8, 6, 4, 2, 0, 0, 0, 0, 0, 0, 3};
        for (int what = 0; what < 18; what++) {
            Twins.leaves(c, "count(" + what + ")", Twins::busy, due[what], countOf(what));
        }
    }

    private static Twins.Call countOf(int what) {
        return x -> x.count(what);
    }

    private static void countsAtTheirEnds(Check c) {
        YoungBuyers x = shops(40);
        c.due("40 shops", x.count(1), 40);
        c.due("40 open", x.count(2), 40);
        x.draw(40, 0);
        c.due("40 drawn", x.count(9), 40);
        x.letters(0);
        c.due("20 letters", x.count(10), 20);
        for (int i = 0; i < 40; i++) {
            x.open(i, false);
        }
        c.due("none open", x.count(2), 0);
        c.due("40 drawn, though shut", x.count(9), 40);
        x.days(2000);
        c.due("day 2000", x.count(0), 2000);
    }

    /** "Nothing changes but how many there were": each number by itself, again and again. */
    private static void refusalsAreCounted(Check c) {
        Twins.Call[] calls = {x -> x.appeal(-1), x -> x.cost(5, 0), x -> x.draw(1, 0), x -> x.days(0),
            x -> x.letters(0), x -> x.leave(2001)};
        YoungBuyers x = new YoungBuyers();
        for (int round = 1; round <= 10; round++) {
            for (int i = 0; i < calls.length; i++) {
                c.due("refused", calls[i].on(x), -1 - i);
                for (int other = 0; other < calls.length; other++) {
                    c.due("count(" + (11 + other) + ")", x.count(11 + other), other <= i ? round : round - 1);
                }
            }
        }
        YoungBuyers table = new YoungBuyers();
        c.due("of a long answer, too", table.helped(-1, 0) + table.wards(0, 0, 0, 0), -5);
        c.due("of a long answer, too", table.count(14) + table.count(11), 2);
    }

    /** -9, a FAULT and an exception are no REFUSALS. */
    private static void whatIsNoRefusal(Check c) {
        YoungBuyers x = new YoungBuyers();
        c.due("no rule", x.force(0, 0), -9);
        c.due("no clerk", x.worst(), -9);
        c.due("no such count", x.count(18), -9);
        c.due("a fault", x.rule(0, 0), -20);
        c.due("back before a draw", Check.backThrows(x, 9), 1);
        x.shop(0, 0, 60, 60);
        x.child(0, -5000);
        x.child(1, -5000);
        x.draw(1, 0);
        c.due("back of another what", Check.backThrows(x, 9), 2);
        x.leave(0);
        c.due("no work", x.work(0, 1, 0), -9);
        c.due("no stop", x.workAt(0, 1, false, 0), -9);
        c.due("no test is foreseen", x.most(0), 0);
        for (int what = 11; what <= 16; what++) {
            c.due("count(" + what + ")", x.count(what), 0);
        }
    }
}
