/** Promises 26 to 29: letters, letter, helped, wards. */
public final class TablesTest {
    public static void main(String[] args) {
        Check c = new Check();
        letters(c);
        newDraw(c);
        helped(c);
        firstGoodOnes(c);
        greatTable(c);
        wards(c);
        c.end();
    }

    private static YoungBuyers shops(int n) {
        YoungBuyers x = new YoungBuyers();
        for (int i = 0; i < n; i++) {
            x.shop(0, i % 4, 0, 0);
        }
        x.child(0, -5000);
        return x;
    }

    private static void letters(Check c) {
        YoungBuyers x = shops(7);
        c.due("nothing drawn", x.letters(-1), -5);
        x.draw(7, 0);
        c.due("seed -1", x.letters(-1), -4);
        c.due("seed 100000", x.letters(100000), -6);
        c.due("no letters yet", x.letter(0), 0);
        c.due("no shop", x.letter(7), -1);
        c.due("no shop", x.letter(-1), -1);
        int[] seeds = {0, 1, 12345, 99999, 53124};
        for (int seed : seeds) {
            c.due("letters(" + seed + ")", x.letters(seed), 3);
            int number = seed;
            int left = 3;
            for (int i = 0; i < 7; i++) {
                number = (int) ((number * 171L + 11213) % 53125);
                boolean gets = number % (7 - i) < left;
                left -= gets ? 1 : 0;
                c.due("letter of " + i + " by " + seed, x.letter(i), gets ? 1 : 0);
            }
            c.due("count(10)", x.count(10), 3);
        }
    }

    private static void newDraw(Check c) {
        YoungBuyers x = shops(4);
        x.draw(4, 0);
        c.due("letters", x.letters(5), 2);
        x.draw(0, 0);
        c.due("a refused draw leaves letters", x.count(10), 2);
        x.open(0, false);
        x.open(1, false);
        c.due("shut ones keep theirs", x.count(10), 2);
        c.due("letters among shut ones too", x.letters(5), 2);
        x.draw(1, 0);
        c.due("a new draw takes them away", x.count(10), 0);
        for (int i = 0; i < 4; i++) {
            c.due("letter of " + i, x.letter(i), 0);
        }
        c.due("one drawn: no letters", x.letters(5), 0);
    }

    /** Four SHOPS; by seed 0 those with a LETTER are 0 and 3. */
    private static void helped(Check c) {
        YoungBuyers x = shops(4);
        c.due("what 7", x.helped(-1, 7), -2);
        c.due("what -1", x.helped(-1, -1), -2);
        c.due("day -1", x.helped(-1, 0), -4);
        c.due("day 2001", x.helped(2001, 0), -6);
        c.due("refusals count", x.count(12) * 100 + x.count(14) * 10 + x.count(16), 211);
        x.test(1, 0, 0, 0, 0, 4);
        c.due("nothing drawn: no tests", x.helped(0, 4), 0);
        x.draw(4, 0);
        c.due("without letters all are in the second half", x.helped(0, 4), 1);
        c.due("without letters: 1 by 1", x.helped(0, 0), 1);
        x.letters(0);
        x.test(2, 0, 0, 0, 0, 4);
        x.test(0, 0, 0, 0, 0, 0);
        x.test(3, 0, 0, 0, 0, 0);
        long[] due = {1, 6, 2, 0, 2, 2, 0};
        for (int what = 0; what < 7; what++) {
            c.due("helped(0, " + what + ")", x.helped(0, what), due[what]);
        }
    }

    private static void firstGoodOnes(Check c) {
        YoungBuyers x = shops(2);
        x.draw(2, 0);
        x.letters(0);
        Check.rule(x, "h<20", 0, 0);
        x.days(5);
        x.test(0, 0, 0, 1, 21, 4);
        x.test(0, 0, 0, 2, 9, 0);
        x.test(0, 0, 0, 3, 9, 4);
        x.test(0, 0, 0, 4, 9, 0);
        int sold = x.letter(0) == 1 ? 3 : 5;
        c.due("the first good one did not sell", x.helped(0, sold), 0);
        c.due("the first good one did not sell", x.helped(2, sold), 0);
        c.due("from 3 on it sold", x.helped(3, sold), 1);
        c.due("from 4 on it did not", x.helped(4, sold), 0);
        c.due("from 5 on there is none", x.helped(5, sold - 1), 0);
        x.appeal(1);
        c.due("the first is voided", x.helped(0, sold), 1);
    }

    /** Forty SHOPS; with a LETTER nobody sells, without one all do: 1 by C(40, 20). */
    private static void greatTable(Check c) {
        YoungBuyers x = shops(40);
        x.draw(40, 0);
        c.due("letters", x.letters(777), 20);
        for (int i = 0; i < 40; i++) {
            x.test(i, 0, 0, 0, 0, x.letter(i) == 1 ? 0 : 4);
        }
        long[] due = {1, 137846528820L, 20, 0, 20, 20, 1};
        for (int what = 0; what < 7; what++) {
            c.due("helped(0, " + what + ")", x.helped(0, what), due[what]);
        }
    }

    private static void wards(Check c) {
        YoungBuyers x = shops(8);
        c.due("ward 4", x.wards(4, 0, -1, 9), -1);
        c.due("ward -1", x.wards(0, -1, -1, 9), -1);
        c.due("one ward", x.wards(2, 2, -1, 9), -1);
        c.due("what 7", x.wards(0, 1, -1, 7), -2);
        c.due("day -1", x.wards(0, 1, -1, 6), -4);
        c.due("day 2001", x.wards(0, 1, 2001, 6), -6);
        c.due("no tests", x.wards(0, 1, 0, 0), 1);
        c.due("no tests", x.wards(0, 1, 0, 1), 1);
        c.due("no tests", x.wards(0, 1, 0, 6), 0);
        x.open(5, true);
        x.test(0, 0, 0, 0, 0, 0);
        x.test(4, 0, 0, 0, 0, 4);
        x.test(1, 0, 0, 0, 0, 4);
        x.test(5, 0, 0, 0, 0, 4);
        x.test(2, 0, 0, 0, 0, 4);
        x.open(5, false);
        long[] due = {1, 2, 2, 1, 2, 2, 0};
        long[] other = {1, 1, 2, 2, 2, 1, 0};
        for (int what = 0; what < 7; what++) {
            c.due("wards(0, 1, 0, " + what + ")", x.wards(0, 1, 0, what), due[what]);
            c.due("wards(1, 0, 0, " + what + ")", x.wards(1, 0, 0, what), other[what]);
        }
        oneByTwenty(c);
    }

    /** Three against three: 1 by 20 helped; three against two: 1 by 10 did not. */
    private static void oneByTwenty(Check c) {
        YoungBuyers x = shops(12);
        for (int i = 0; i < 12; i++) {
            if (i % 4 < 2 && i != 9) {
                x.test(i, 0, 0, 0, 0, i % 4 == 0 ? 0 : 4);
            }
        }
        c.due("1 by 10: above", x.wards(0, 1, 0, 0), 1);
        c.due("1 by 10: below", x.wards(0, 1, 0, 1), 10);
        c.due("1 by 10", x.wards(0, 1, 0, 6), 0);
        x.test(9, 0, 0, 0, 0, 4);
        c.due("1 by 20: below", x.wards(0, 1, 0, 1), 20);
        c.due("1 by 20", x.wards(0, 1, 0, 6), 1);
    }
}
