/** Boundary cases of promises 11 to 13 and of "Terms" II. */
public final class EdgesDrawTest {
    public static void main(String[] args) {
        Check c = new Check();
        noShopIsOpen(c);
        drawArguments(c);
        partsOfOne(c);
        sureAgainAndAgain(c);
        asManyAsAreOpen(c);
        beginningsAndEnds(c);
        startAndOne(c);
        sureOnesAreNotInTheRow(c);
        drawnArguments(c);
        notOpen(c);
        withoutACommonDivisor(c);
        staysTillTheNext(c);
        backArguments(c);
        backOfNone(c);
        backOfTheLatestGoodTest(c);
        backOfAnyOwner(c);
        c.end();
    }

    private static YoungBuyers withWeights(int... weights) {
        YoungBuyers x = new YoungBuyers();
        for (int i = 0; i < weights.length; i++) {
            x.shop(0, 0, 0, 0);
            x.weight(i, weights[i]);
        }
        return x;
    }

    /** The SHOPS that were drawn, as a row of 0 and 1. */
    private static void drawnAre(Check c, YoungBuyers x, int n, int u, String due) {
        int size = x.draw(n, u);
        StringBuilder row = new StringBuilder();
        int ones = 0;
        for (int i = 0; i < x.count(1); i++) {
            row.append(x.drawn(i, 0));
            ones += x.drawn(i, 0);
        }
        c.due("draw(" + n + ", " + u + ")", row.toString(), due);
        c.due("how many by draw(" + n + ", " + u + ")", size, ones);
        c.due("count(9) behind it", x.count(9), ones);
    }

    private static void parts(Check c, YoungBuyers x, int shop, int above, int below) {
        c.due("parts of " + shop + " above", x.drawn(shop, 1), above);
        c.due("parts of " + shop + " below", x.drawn(shop, 2), below);
    }

    /** "-3 no SHOP is OPEN; -4; -6." */
    private static void noShopIsOpen(Check c) {
        Twins.Town none = YoungBuyers::new;
        Twins.Town shut = () -> {
            YoungBuyers x = withWeights(1, 2);
            x.draw(1, 0);
            x.letters(0);
            x.open(0, false);
            x.open(1, false);
            return x;
        };
        Twins.refuses(c, "no shop", none, -3, x -> x.draw(1, 0));
        Twins.refuses(c, "no shop, n below", none, -3, x -> x.draw(0, 0));
        Twins.refuses(c, "no shop, u above", none, -3, x -> x.draw(1, 1000));
        Twins.refuses(c, "all shut", shut, -3, x -> x.draw(1, 0));
        Twins.refuses(c, "all shut, u below", shut, -3, x -> x.draw(41, -1));
        YoungBuyers x = shut.make();
        x.open(1, true);
        c.due("one is open", x.draw(1, 0), 1);
        c.due("it is drawn", x.drawn(1, 0), 1);
    }

    /** "A DRAW of n (1 .. 40)"; "u (0 .. 999)". Six SHOPS are OPEN. */
    private static void drawArguments(Check c) {
        Twins.Town t = Twins::busy;
        Twins.range(c, "n", t, Twins.of(1, 40), Twins.of(-4, -6), (x, v) -> x.draw(v, 0), v -> Math.min(v, 6));
        Twins.range(c, "u", t, Twins.of(0, 999), Twins.of(-4, -6), (x, v) -> x.draw(3, v), v -> 3);
        Twins.refuses(c, "n below, u above", t, -4, x -> x.draw(0, 1000));
        Twins.refuses(c, "n above, u below", t, -4, x -> x.draw(41, -1));
        Twins.refuses(c, "both above", t, -6, x -> x.draw(41, 1000));
    }

    /** "If that is less than 1; SHOPS for which it would be 1 or more are SURE." */
    private static void partsOfOne(Check c) {
        YoungBuyers less = withWeights(2, 1, 1, 1);
        less.draw(2, 999);
        parts(c, less, 0, 4, 5);
        parts(c, less, 1, 2, 5);
        YoungBuyers one = withWeights(2, 1, 1);
        for (int u = 0; u < 1000; u += 333) {
            one.draw(2, u);
            c.due("1 is sure", one.drawn(0, 0), 1);
            parts(c, one, 0, 1, 1);
            parts(c, one, 1, 1, 2);
        }
        YoungBuyers more = withWeights(3, 1, 1);
        more.draw(2, 999);
        c.due("6 by 5 is sure", more.drawn(0, 0), 1);
        parts(c, more, 0, 1, 1);
        parts(c, more, 1, 1, 2);
    }

    /** "The others are reckoned anew with n less by these and without them, till no more are SURE." */
    private static void sureAgainAndAgain(Check c) {
        YoungBuyers x = withWeights(1, 1, 2, 4, 8, 16);
        // 5 of 32, 4 of 16, 3 of 8, 2 of 4: each time the greatest is sure; the last two are a half each.
        drawnAre(c, x, 5, 499, "101111");
        parts(c, x, 2, 1, 1);
        parts(c, x, 1, 1, 2);
        drawnAre(c, x, 5, 500, "011111");
        // 4 of 32, 3 of 16, 2 of 8: 16, 8 and 4 (2 times 4 by 8 is 1) are sure; then 1 of 4.
        drawnAre(c, x, 4, 0, "100111");
        parts(c, x, 3, 1, 1);
        parts(c, x, 2, 1, 2);
        parts(c, x, 0, 1, 4);
        // 3 of 32, 2 of 16: 16 and 8 are sure; then 1 of 8: 4 by 8 is not.
        drawnAre(c, x, 3, 999, "000111");
        parts(c, x, 4, 1, 1);
        parts(c, x, 3, 1, 2);
        // 2 of 32: 16 is 1 and sure; then 1 of 16.
        drawnAre(c, x, 2, 0, "100001");
        parts(c, x, 4, 1, 2);
        // 1 of 32: none is sure.
        drawnAre(c, x, 1, 500, "000001");
        parts(c, x, 5, 1, 2);
        YoungBuyers beside = withWeights(16, 3, 1, 1, 1, 1);
        beside.draw(3, 0);
        parts(c, beside, 0, 1, 1);
        parts(c, beside, 1, 6, 7);
    }

    /** "With n or fewer OPEN SHOPS all are SURE." */
    private static void asManyAsAreOpen(Check c) {
        YoungBuyers x = withWeights(20, 1, 7, 3, 1);
        drawnAre(c, x, 4, 0, "11110");
        drawnAre(c, x, 5, 999, "11111");
        parts(c, x, 4, 1, 1);
        drawnAre(c, x, 6, 999, "11111");
        drawnAre(c, x, 40, 0, "11111");
        x.open(1, false);
        drawnAre(c, x, 4, 999, "10111");
        parts(c, x, 4, 1, 1);
        YoungBuyers all = new YoungBuyers();
        for (int i = 0; i < 40; i++) {
            all.shop(0, 0, 0, 0);
            all.weight(i, i % 20 + 1);
        }
        c.due("39 of 40", all.draw(39, 999), 39);
        c.isTrue("one with 1 in parts below 1", all.drawn(0, 2) > 1);
        c.due("40 of 40", all.draw(40, 999), 40);
        parts(c, all, 0, 1, 1);
    }

    /** "A stretch has its beginning, not its end." */
    private static void beginningsAndEnds(Check c) {
        YoungBuyers x = withWeights(1, 3, 4, 2);
        int[] u = {0, 1, 99, 100, 101, 399, 400, 401, 799, 800, 801, 999};
        String[] due = {"1000", "1000", "1000", "0100", "0100", "0100", "0010", "0010", "0010", "0001", "0001", "0001"};
        for (int i = 0; i < u.length; i++) {
            drawnAre(c, x, 1, u[i], due[i]);
        }
        // Thirds: 333 by 1000 is below a third, 334 above it.
        YoungBuyers thirds = withWeights(1, 1, 1);
        drawnAre(c, thirds, 1, 333, "100");
        drawnAre(c, thirds, 1, 334, "010");
        drawnAre(c, thirds, 1, 666, "010");
        drawnAre(c, thirds, 1, 667, "001");
        YoungBuyers alone = withWeights(20);
        drawnAre(c, alone, 1, 0, "1");
        drawnAre(c, alone, 1, 999, "1");
    }

    /** "Drawn are those in whose stretch there is START, or START and 1, or 2, and so on." */
    private static void startAndOne(Check c) {
        YoungBuyers six = withWeights(1, 1, 1, 1, 1, 1);
        drawnAre(c, six, 3, 0, "101010");
        drawnAre(c, six, 3, 499, "101010");
        drawnAre(c, six, 3, 500, "010101");
        drawnAre(c, six, 3, 999, "010101");
        // Two of three: the stretches end at 2/3, 4/3 and 2.
        YoungBuyers three = withWeights(1, 1, 1);
        drawnAre(c, three, 2, 0, "110");
        drawnAre(c, three, 2, 333, "110");
        drawnAre(c, three, 2, 334, "101");
        drawnAre(c, three, 2, 666, "101");
        drawnAre(c, three, 2, 667, "011");
        drawnAre(c, three, 2, 999, "011");
    }

    /** "The others are laid in a row by numbers, each as long as its PARTS." */
    private static void sureOnesAreNotInTheRow(Check c) {
        YoungBuyers x = withWeights(1, 20, 1);
        drawnAre(c, x, 2, 499, "110");
        drawnAre(c, x, 2, 500, "011");
        YoungBuyers shut = withWeights(1, 20, 1);
        shut.open(1, false);
        drawnAre(c, shut, 1, 499, "100");
        drawnAre(c, shut, 1, 500, "001");
    }

    /** "-5; -1; -2." */
    private static void drawnArguments(Check c) {
        Twins.Town t = Twins::busy;
        Twins.Town before = () -> withWeights(1, 1);
        // 2, 3, 4, 5, 6, 7 and 1 of 28; 4 times 7 by 28 is 1 and sure, and the others are 3 of 21.
        int[] below = {7, 7, 7, 7, 7, 1, 7};
        Twins.range(c, "shop", t, Twins.of(0, 6), Twins.of(-1, -1), (x, v) -> x.drawn(v, 2), v -> below[v]);
        int[] first = {0, 2, 7};
        Twins.range(c, "what", t, Twins.of(0, 2), Twins.of(-2, -2), (x, v) -> x.drawn(0, v), v -> first[v]);
        Twins.refuses(c, "nothing drawn", before, -5, x -> x.drawn(0, 0));
        Twins.refuses(c, "nothing drawn, no shop", before, -5, x -> x.drawn(2, 0));
        Twins.refuses(c, "nothing drawn, another what", before, -5, x -> x.drawn(0, 3));
        Twins.refuses(c, "no shop, another what", t, -1, x -> x.drawn(7, 3));
    }

    /** "0 by 1 if it was not OPEN": SHUT then, or told later. */
    private static void notOpen(Check c) {
        YoungBuyers x = withWeights(1, 1, 1);
        x.open(1, false);
        x.draw(1, 0);
        x.open(1, true);
        x.shop(0, 0, 0, 0);
        c.due("shut then: not drawn", x.drawn(1, 0), 0);
        parts(c, x, 1, 0, 1);
        c.due("told later: not drawn", x.drawn(3, 0), 0);
        parts(c, x, 3, 0, 1);
        c.due("not told yet", x.drawn(4, 1), -1);
        x.open(0, false);
        c.due("open then, shut now: drawn", x.drawn(0, 0), 1);
        parts(c, x, 0, 1, 2);
        c.due("open then, not drawn", x.drawn(2, 0), 0);
        parts(c, x, 2, 1, 2);
        x.draw(1, 0);
        parts(c, x, 0, 0, 1);
        parts(c, x, 3, 1, 3);
    }

    private static void withoutACommonDivisor(Check c) {
        YoungBuyers x = withWeights(4, 6, 2);
        x.draw(1, 0);
        parts(c, x, 0, 1, 3);
        parts(c, x, 1, 1, 2);
        parts(c, x, 2, 1, 6);
        YoungBuyers y = withWeights(5, 7, 8, 9);
        y.draw(2, 0);
        parts(c, y, 0, 10, 29);
        parts(c, y, 1, 14, 29);
        parts(c, y, 2, 16, 29);
        parts(c, y, 3, 18, 29);
    }

    /** "The latest DRAW stays (who was drawn, PARTS) till the next one." */
    private static void staysTillTheNext(Check c) {
        YoungBuyers x = withWeights(1, 2, 1);
        x.draw(1, 999);
        x.weight(2, 20);
        x.open(2, false);
        x.most(20000);
        x.days(1);
        x.sell(2);
        c.due("stays drawn", x.drawn(2, 0), 1);
        parts(c, x, 2, 1, 4);
        c.due("back stays", x.back(2), 4);
        x.draw(1, 0);
        c.due("drawn no more", x.drawn(2, 0), 0);
        parts(c, x, 0, 1, 3);
    }

    /** "IllegalStateException: nothing was drawn. IllegalArgumentException: another what. (In this order.)" */
    private static void backArguments(Check c) {
        Twins.Town before = () -> withWeights(1, 1);
        int[] whats = {Integer.MIN_VALUE, -1, 0, 3, 4, Integer.MAX_VALUE};
        for (int what : whats) {
            String told = "back(" + what + ")";
            Twins.leaves(c, told + ", nothing drawn", before, Twins.STATE_EXCEPTION, x -> Twins.back(x, what));
            if (what < 0 || what > 3) {
                Twins.leaves(c, told, Twins::busy, Twins.ARGUMENT_EXCEPTION, x -> Twins.back(x, what));
            }
        }
        // 1, 2 and 4 of 7, two drawn: the last is sure; a third and two thirds.
        YoungBuyers x = withWeights(1, 2, 4);
        x.child(0, -5000);
        x.draw(2, 333);
        x.test(0, 0, 0, 0, 0, 4);
        long[] due = {3, 1, 4, 1};
        for (int what = 0; what < 4; what++) {
            c.due("back(" + what + ")", x.back(what), due[what]);
        }
        x.draw(2, 334);
        long[] other = {0, 1, 5, 2};
        for (int what = 0; what < 4; what++) {
            c.due("back(" + what + ") of the next draw", x.back(what), other[what]);
        }
    }

    /** "0 is 0 by 1." */
    private static void backOfNone(Check c) {
        YoungBuyers x = withWeights(1, 2, 4);
        x.draw(2, 0);
        c.due("no tests: above", x.back(0), 0);
        c.due("no tests: below", x.back(1), 1);
    }

    /** "Whose latest TEST that counts and is GOOD, as of now, SOLD." */
    private static void backOfTheLatestGoodTest(Check c) {
        YoungBuyers x = withWeights(1, 1);
        x.child(0, -5000);
        Check.rule(x, "h<12", 0, 0);
        x.draw(1, 0);
        x.test(0, 0, 0, 0, 12, 4);
        c.due("not good", x.back(0), 0);
        x.test(0, 0, 0, 0, 11, 4);
        c.due("good", x.back(0), 2);
        c.due("good: below", x.back(1), 1);
        x.test(0, 0, 0, 0, 12, 0);
        c.due("a later one that is not good", x.back(0), 2);
        x.test(0, 0, 0, 0, 11, 0);
        c.due("a later good one did not sell", x.back(0), 0);
        x.days(1);
        x.appeal(3);
        c.due("it is voided", x.back(0), 2);
        x.test(1, 0, 0, 1, 11, 4);
        c.due("one that was not drawn", x.back(0), 2);
        x.appeal(1);
        c.due("all voided", x.back(0), 0);
        c.due("all voided: below", x.back(1), 1);
    }

    /** "Those drawn SHOPS whose latest TEST ..": ahead of the DRAW or behind it, of whichever OWNER. */
    private static void backOfAnyOwner(Check c) {
        YoungBuyers x = withWeights(1, 1);
        x.child(0, -5000);
        x.test(0, 0, 0, 0, 0, 4);
        x.days(1);
        x.draw(1, 0);
        c.due("a test ahead of the draw", x.back(0), 2);
        x.sell(0);
        c.due("of the owner ahead", x.back(0), 2);
        x.open(0, false);
        c.due("shut", x.back(0), 2);
        x.open(0, true);
        x.test(0, 0, 0, 1, 0, 0);
        c.due("the next owner did not sell", x.back(0), 0);
        x.draw(1, 500);
        c.due("the other shop is drawn", x.drawn(1, 0), 1);
        c.due("it had no test", x.back(0), 0);
    }
}
