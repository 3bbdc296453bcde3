/** Boundary cases of promises 26 to 29 and of "Terms" VI. */
public final class EdgesTablesTest {
    public static void main(String[] args) {
        Check c = new Check();
        lettersArguments(c);
        halvesOfFew(c);
        seedsThatWrapRound(c);
        givenByTurns(c);
        aNewDrawTakesThemAway(c);
        letterArguments(c);
        helpedArguments(c);
        wardsArguments(c);
        withoutTests(c);
        fromADayOn(c);
        theFirstGoodOne(c);
        ofShopsThatWereDrawn(c);
        toldAheadOfTheDraw(c);
        oneByTwenty(c);
        chancesAtTheEnds(c);
        greatestTable(c);
        allShopsOfTwoWards(c);
        c.end();
    }

    private static YoungBuyers drawnShops(int n) {
        YoungBuyers x = new YoungBuyers();
        for (int i = 0; i < n; i++) {
            x.shop(0, i % 4, 0, 0);
        }
        x.child(0, -5000);
        x.draw(40, 0);
        return x;
    }

    /** "From a SEED (0 .. 99999)"; "-5 nothing was drawn; -4; -6." Four were drawn. */
    private static void lettersArguments(Check c) {
        Twins.Town t = Twins::busy;
        Twins.Town before = () -> {
            YoungBuyers x = new YoungBuyers();
            x.shop(0, 0, 0, 0);
            return x;
        };
        Twins.range(c, "seed", t, Twins.of(0, 99999), Twins.of(-4, -6), YoungBuyers::letters, v -> 2);
        Twins.refuses(c, "nothing drawn", before, -5, x -> x.letters(0));
        Twins.refuses(c, "nothing drawn, seed below", before, -5, x -> x.letters(-1));
        Twins.refuses(c, "nothing drawn, seed above", before, -5, x -> x.letters(100000));
        YoungBuyers x = before.make();
        x.draw(1, 0);
        c.due("one drawn", x.letters(0), 0);
        YoungBuyers shut = drawnShops(2);
        shut.open(0, false);
        shut.open(1, false);
        c.due("two drawn, though shut", shut.letters(1), 1);
        c.due("a letter of a shut shop", shut.letter(0), 1);
    }

    /** "How many LETTERS are left to give (m by 2, cut, at first)." */
    private static void halvesOfFew(Check c) {
        for (int m : new int[] {1, 2, 3, 4, 5, 39, 40}) {
            for (int seed : new int[] {0, 1, 53124, 53125, 99998, 99999}) {
                YoungBuyers x = drawnShops(m);
                c.due("letters of " + m, x.letters(seed), m / 2);
                c.due("count(10)", x.count(10), m / 2);
                int given = 0;
                for (int i = 0; i < m; i++) {
                    given += x.letter(i);
                }
                c.due("letters given of " + m, given, m / 2);
            }
        }
    }

    /** "SEED becomes (SEED times 171 and 11213) modulo 53125." */
    private static void seedsThatWrapRound(Check c) {
        // 0 becomes 11213, odd: the second of two gets it; 1 becomes 11384, even: the first one.
        lettersAre(c, 2, 0, "01");
        lettersAre(c, 2, 1, "10");
        // 245 becomes 53108, 246 becomes 53279 and so 154: below the modulus, and above it.
        lettersAre(c, 2, 245, "10");
        lettersAre(c, 2, 246, "10");
        // 247 becomes 325; 53125 is like 0 and 53126 like 1.
        lettersAre(c, 2, 247, "01");
        lettersAre(c, 2, 53125, "01");
        lettersAre(c, 2, 53126, "10");
        // 99999 becomes 17111042 modulo 53125, that is 4792.
        lettersAre(c, 2, 99999, "10");
    }

    private static void lettersAre(Check c, int m, int seed, String due) {
        YoungBuyers x = drawnShops(m);
        x.letters(seed);
        StringBuilder row = new StringBuilder();
        for (int i = 0; i < m; i++) {
            row.append(x.letter(i));
        }
        c.due("letters by " + seed, row.toString(), due);
    }

    /** "It gets a LETTER if SEED modulo (m less i) is below how many LETTERS are left to give." */
    private static void givenByTurns(Check c) {
        for (int seed = 0; seed < 300; seed++) {
            for (int m = 1; m <= 9; m += 2) {
                StringBuilder due = new StringBuilder();
                long number = seed * 333L;
                int left = m / 2;
                for (int i = 0; i < m; i++) {
                    number = (number * 171 + 11213) % 53125;
                    boolean gets = number % (m - i) < left;
                    left -= gets ? 1 : 0;
                    due.append(gets ? 1 : 0);
                }
                lettersAre(c, m, seed * 333, due.toString());
            }
        }
    }

    /** "A new DRAW takes LETTERS away"; a refused one does not; other LETTERS come in their place. */
    private static void aNewDrawTakesThemAway(Check c) {
        YoungBuyers x = drawnShops(4);
        x.letters(0);
        c.due("letters", x.count(10), 2);
        c.due("a refused draw", x.draw(41, 0), -6);
        c.due("letters stay", x.count(10), 2);
        c.due("refused letters", x.letters(100000), -6);
        c.due("letters stay", x.count(10), 2);
        x.letters(1);
        c.due("other letters", x.count(10), 2);
        x.draw(40, 0);
        c.due("none behind a draw", x.count(10), 0);
        for (int i = 0; i < 4; i++) {
            c.due("none behind a draw", x.letter(i), 0);
        }
    }

    /** "Whether a SHOP got a LETTER (0 without HALVES): 1, 0. -1." */
    private static void letterArguments(Check c) {
        Twins.range(c, "shop", () -> drawnShops(2), Twins.of(0, 1), Twins.of(-1, -1), YoungBuyers::letter, v -> 0);
        Twins.refuses(c, "no shop at all", YoungBuyers::new, -1, x -> x.letter(0));
        YoungBuyers never = new YoungBuyers();
        never.shop(0, 0, 0, 0);
        c.due("nothing drawn", never.letter(0), 0);
        YoungBuyers all = drawnShops(40);
        all.letters(5);
        c.isTrue("the last shop", all.letter(39) >= 0);
        c.due("none behind it", all.letter(40), -1);
    }

    /** "-2; -4, -6 DAY. (Of a refusal the number.)" */
    private static void helpedArguments(Check c) {
        Twins.Town t = () -> {
            YoungBuyers x = drawnShops(2);
            x.letters(1);
            x.test(0, 0, 0, 0, 0, 0);
            x.test(1, 0, 0, 0, 0, 4);
            return x;
        };
        long[] due = {1, 2, 1, 0, 1, 1, 0};
        Twins.range(c, "what", t, Twins.of(0, 6), Twins.of(-2, -2), (x, v) -> x.helped(0, v), v -> due[v]);
        Twins.range(c, "day", t, Twins.of(0, 2000), Twins.of(-4, -6), (x, v) -> x.helped(v, 2), v -> v == 0 ? 1 : 0);
        for (int what = 0; what < 7; what++) {
            int w = what;
            Twins.refuses(c, "day below, what " + what, t, -4, x -> x.helped(-1, w));
            Twins.refuses(c, "day above, what " + what, t, -6, x -> x.helped(2001, w));
        }
        Twins.refuses(c, "what, day below", t, -2, x -> x.helped(-1, 7));
        Twins.refuses(c, "what, day above", t, -2, x -> x.helped(2001, -1));
    }

    /** "-1 (also if they are one); -2; -4; -6." */
    private static void wardsArguments(Check c) {
        Twins.Town t = () -> {
            YoungBuyers x = drawnShops(4);
            for (int i = 0; i < 4; i++) {
                x.test(i, 0, 0, 0, 0, i == 0 ? 0 : 4);
            }
            return x;
        };
        long[] due = {1, 2, 1, 0, 1, 1, 0};
        Twins.range(c, "a", t, Twins.of(0, 2), Twins.of(-1, -1), (x, v) -> x.wards(v, 3, 0, 2), v -> 1);
        Twins.range(c, "b", t, Twins.of(1, 3), Twins.of(-1, -1), (x, v) -> x.wards(0, v, 0, 4), v -> 1);
        Twins.range(c, "what", t, Twins.of(0, 6), Twins.of(-2, -2), (x, v) -> x.wards(0, 1, 0, v), v -> due[v]);
        Twins.range(c, "day", t, Twins.of(0, 2000), Twins.of(-4, -6), (x, v) -> x.wards(0, 1, v, 4),
                v -> v == 0 ? 1 : 0);
        for (int ward = 0; ward < 4; ward++) {
            int one = ward;
            Twins.refuses(c, "one ward " + ward, t, -1, x -> x.wards(one, one, 0, 0));
        }
        Twins.refuses(c, "a 4", t, -1, x -> x.wards(4, 0, 0, 0));
        Twins.refuses(c, "b -1", t, -1, x -> x.wards(3, -1, 0, 0));
        Twins.refuses(c, "ward, what, day", t, -1, x -> x.wards(4, 0, -1, 7));
        Twins.refuses(c, "one ward, what, day", t, -1, x -> x.wards(1, 1, 2001, -1));
        Twins.refuses(c, "what, day below", t, -2, x -> x.wards(0, 1, -1, 7));
        Twins.refuses(c, "what, day above", t, -2, x -> x.wards(0, 1, 2001, -1));
    }

    private static void tableIs(Check c, String name, YoungBuyers x, int day, long... due) {
        for (int what = 0; what < due.length; what++) {
            c.due(name + ", wards, what " + what, x.wards(0, 1, day, what), due[what]);
        }
    }

    private static void helpedIs(Check c, String name, YoungBuyers x, int day, long... due) {
        for (int what = 0; what < due.length; what++) {
            c.due(name + ", helped, what " + what, x.helped(day, what), due[what]);
        }
    }

    /** "1 by 1 without TESTS." */
    private static void withoutTests(Check c) {
        helpedIs(c, "a new object", new YoungBuyers(), 0, 1, 1, 0, 0, 0, 0, 0);
        tableIs(c, "a new object", new YoungBuyers(), 0, 1, 1, 0, 0, 0, 0, 0);
        YoungBuyers x = drawnShops(2);
        x.letters(0);
        helpedIs(c, "no tests", x, 0, 1, 1, 0, 0, 0, 0, 0);
        tableIs(c, "no tests", x, 0, 1, 1, 0, 0, 0, 0, 0);
        x.test(0, 0, 0, 0, 0, 4);
        x.appeal(0);
        helpedIs(c, "a voided one", x, 0, 1, 1, 0, 0, 0, 0, 0);
        tableIs(c, "a voided one", x, 0, 1, 1, 0, 0, 0, 0, 0);
        x.test(0, 0, 0, 0, 0, 4);
        helpedIs(c, "one of the second half", x, 0, 1, 1, 0, 0, 1, 1, 0);
        tableIs(c, "one of the first ward", x, 0, 1, 1, 1, 1, 0, 0, 0);
        Check.rule(x, "0", 0, 0);
        helpedIs(c, "none is good", x, 0, 1, 1, 0, 0, 0, 0, 0);
        tableIs(c, "none is good", x, 0, 1, 1, 0, 0, 0, 0, 0);
    }

    /** "GOOD TESTS from a DAY on, as of now." */
    private static void fromADayOn(Check c) {
        YoungBuyers x = drawnShops(2);
        x.letters(1);
        x.days(9);
        x.test(0, 0, 0, 5, 0, 4);
        x.test(1, 0, 0, 7, 0, 4);
        int[][] due = {{0, 1, 1}, {4, 1, 1}, {5, 1, 1}, {6, 0, 1}, {7, 0, 1}, {8, 0, 0}, {2000, 0, 0}};
        for (int[] d : due) {
            c.due("n1 from " + d[0], x.helped(d[0], 2), d[1]);
            c.due("x from " + d[0], x.helped(d[0], 3), d[1]);
            c.due("n2 from " + d[0], x.helped(d[0], 4), d[2]);
            c.due("z from " + d[0], x.helped(d[0], 5), d[2]);
            c.due("ward 0 from " + d[0], x.wards(0, 1, d[0], 2), d[1]);
            c.due("ward 1 from " + d[0], x.wards(0, 1, d[0], 4), d[2]);
        }
    }

    /** "Of each SHOP the first GOOD one of these." */
    private static void theFirstGoodOne(Check c) {
        YoungBuyers x = drawnShops(2);
        x.letters(1);
        Check.rule(x, "h<12", 0, 0);
        x.days(9);
        x.test(0, 0, 0, 1, 12, 4);
        x.test(0, 0, 0, 2, 11, 0);
        x.test(0, 0, 0, 2, 11, 4);
        x.test(0, 0, 0, 3, 11, 4);
        c.due("one shop", x.helped(0, 2), 1);
        c.due("the first is not good, the second did not sell", x.helped(0, 3), 0);
        c.due("from 2 on", x.helped(2, 3), 0);
        c.due("from 3 on", x.helped(3, 3), 1);
        x.appeal(1);
        c.due("the second is voided", x.helped(0, 3), 1);
        x.sell(0);
        c.due("an owner more changes nothing", x.helped(0, 2), 1);
    }

    /** "Of SHOPS that were drawn": others are left out, SHUT ones are not. */
    private static void ofShopsThatWereDrawn(Check c) {
        YoungBuyers x = drawnShops(2);
        x.letters(1);
        x.shop(0, 0, 0, 0);
        x.test(0, 0, 0, 0, 0, 0);
        x.test(1, 0, 0, 0, 0, 4);
        x.test(2, 0, 0, 0, 0, 4);
        helpedIs(c, "two were drawn", x, 0, 1, 2, 1, 0, 1, 1, 0);
        x.open(0, false);
        x.open(1, false);
        helpedIs(c, "shut now", x, 0, 1, 2, 1, 0, 1, 1, 0);
        x.open(0, true);
        x.draw(40, 0);
        helpedIs(c, "a new draw, without letters", x, 0, 1, 1, 0, 0, 2, 1, 0);
    }

    /** TESTS that were told ahead of the DRAW and of the LETTERS are of the table, too. */
    private static void toldAheadOfTheDraw(Check c) {
        YoungBuyers x = new YoungBuyers();
        x.child(0, -5000);
        for (int i = 0; i < 2; i++) {
            x.shop(0, i, 0, 0);
            x.test(i, 0, 0, 0, 0, i == 1 ? 4 : 0);
        }
        x.days(1);
        x.draw(2, 0);
        helpedIs(c, "a draw behind them", x, 0, 1, 1, 0, 0, 2, 1, 0);
        x.letters(1);
        helpedIs(c, "letters behind them", x, 0, 1, 2, 1, 0, 1, 1, 0);
        x.letters(0);
        helpedIs(c, "other letters", x, 0, 1, 1, 1, 1, 1, 0, 0);
    }

    /** n SHOPS in WARD 0 that did not sell, one in WARD 1 that did: 1 by (n and 1). */
    private static YoungBuyers oneAgainst(int n) {
        YoungBuyers x = new YoungBuyers();
        x.child(0, -5000);
        for (int i = 0; i <= n; i++) {
            x.shop(0, i == n ? 1 : 0, 0, 0);
            x.test(i, 0, 0, 0, 0, i == n ? 4 : 0);
        }
        return x;
    }

    /** "HELPED: it is 1 by 20 or less." */
    private static void oneByTwenty(Check c) {
        tableIs(c, "1 by 19", oneAgainst(18), 0, 1, 19, 18, 0, 1, 1, 0);
        tableIs(c, "1 by 20", oneAgainst(19), 0, 1, 20, 19, 0, 1, 1, 1);
        tableIs(c, "1 by 21", oneAgainst(20), 0, 1, 21, 20, 0, 1, 1, 1);
        tableIs(c, "1 by 40", oneAgainst(39), 0, 1, 40, 39, 0, 1, 1, 1);
        // By letters: three with and three without, all and none sold, are 1 by 20.
        YoungBuyers x = drawnShops(6);
        x.letters(3);
        for (int i = 0; i < 6; i++) {
            x.test(i, 0, 0, 0, 0, x.letter(i) == 1 ? 0 : 4);
        }
        helpedIs(c, "three and three", x, 0, 1, 20, 3, 0, 3, 3, 1);
        YoungBuyers y = drawnShops(5);
        y.letters(3);
        for (int i = 0; i < 5; i++) {
            y.test(i, 0, 0, 0, 0, y.letter(i) == 1 ? 0 : 4);
        }
        helpedIs(c, "two and three", y, 0, 1, 10, 2, 0, 3, 3, 0);
    }

    /** "The chance that x or fewer had a LETTER": none, all, and all but one. */
    private static void chancesAtTheEnds(Check c) {
        // Four in each ward; x and z of them sold.
        long[][] due = {{0, 0, 1, 1}, {4, 4, 1, 1}, {0, 4, 1, 70}, {4, 0, 1, 1}, {1, 4, 1, 14}, {0, 1, 1, 2},
            {1, 0, 1, 1}, {2, 2, 53, 70}, {1, 3, 17, 70}, {3, 1, 69, 70}, {3, 4, 1, 2}, {0, 3, 1, 14}};
        for (long[] d : due) {
            YoungBuyers x = new YoungBuyers();
            x.child(0, -5000);
            for (int i = 0; i < 8; i++) {
                x.shop(0, i / 4, 0, 0);
                x.test(i, 0, 0, 0, 0, i % 4 < d[i / 4] ? 4 : 0);
            }
            tableIs(c, d[0] + " and " + d[1] + " of four", x, 0, d[2], d[3], 4, d[0], 4, d[1],
                    d[2] * 20 <= d[3] ? 1 : 0);
        }
    }

    private static void greatestTable(Check c) {
        YoungBuyers x = new YoungBuyers();
        x.child(0, -5000);
        for (int i = 0; i < 40; i++) {
            x.shop(0, i % 2, 0, 0);
            x.test(i, 0, 0, 0, 0, i % 2 == 0 ? 0 : 4);
        }
        tableIs(c, "20 and 20", x, 0, 1, 137846528820L, 20, 0, 20, 20, 1);
        c.due("the other way: 1", x.wards(1, 0, 0, 0), 1);
        c.due("the other way: by 1", x.wards(1, 0, 0, 1), 1);
        YoungBuyers half = new YoungBuyers();
        half.child(0, -5000);
        for (int i = 0; i < 40; i++) {
            half.shop(0, i % 2, 0, 0);
            half.test(i, 0, 0, 0, 0, i < 20 ? 4 : 0);
        }
        tableIs(c, "ten and ten sold", half, 0, 300666623L, 481980870L, 20, 10, 20, 10, 0);
    }

    /** "WARDS likewise: of all SHOPS of two WARDS", drawn or not, OPEN or SHUT. */
    private static void allShopsOfTwoWards(Check c) {
        YoungBuyers x = new YoungBuyers();
        x.child(0, -5000);
        for (int i = 0; i < 4; i++) {
            x.shop(0, i, 0, 0);
            x.test(i, 0, 0, 0, 0, i == 1 ? 4 : 0);
        }
        tableIs(c, "nothing drawn", x, 0, 1, 2, 1, 0, 1, 1, 0);
        x.open(0, false);
        x.open(1, false);
        tableIs(c, "shut", x, 0, 1, 2, 1, 0, 1, 1, 0);
        c.due("two others: n1", x.wards(2, 3, 0, 2), 1);
        c.due("two others: z", x.wards(2, 3, 0, 5), 0);
        x.draw(1, 0);
        c.due("one of the others is drawn", x.drawn(2, 0), 1);
        tableIs(c, "others are drawn", x, 0, 1, 2, 1, 0, 1, 1, 0);
        c.due("drawn or not: n1", x.wards(2, 3, 0, 2), 1);
        c.due("drawn or not: n2", x.wards(2, 3, 0, 4), 1);
        x.days(1);
        x.sell(0);
        tableIs(c, "sold", x, 0, 1, 2, 1, 0, 1, 1, 0);
    }
}
