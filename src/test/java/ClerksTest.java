/** Promises 30 to 32: clerk, tally, worst. */
public final class ClerksTest {
    public static void main(String[] args) {
        Check c = new Check();
        clerk(c);
        roomForClerks(c);
        standing(c);
        worst(c);
        c.end();
    }

    private static YoungBuyers twoShops() {
        YoungBuyers x = new YoungBuyers();
        x.shop(0, 0, 0, 0);
        x.shop(0, 0, 0, 0);
        x.child(0, -5000);
        return x;
    }

    private static void clerk(Check c) {
        YoungBuyers x = twoShops();
        c.due("clerk 10", x.clerk(10, 0, -1, 0, 0), -1);
        c.due("clerk -1", x.clerk(-1, 0, -1, 0, 0), -1);
        c.due("no shop", x.clerk(0, 2, -1, 0, 0), -1);
        c.due("from -1, to 25", x.clerk(0, 0, -1, 25, 0), -4);
        c.due("to 0", x.clerk(0, 0, 0, 0, 0), -4);
        c.due("to as from", x.clerk(0, 0, 24, 24, 0), -4);
        c.due("to below from", x.clerk(0, 0, 5, 4, 0), -4);
        c.due("from 24", x.clerk(0, 0, 24, 25, 0), -6);
        c.due("to 25", x.clerk(0, 0, 0, 25, 0), -6);
        c.due("day 2001", x.clerk(0, 0, 0, 24, 2001), -6);
        c.due("day -1", x.clerk(0, 0, 0, 25, -1), -4);
        x.days(1);
        c.due("day ahead of now", x.clerk(0, 0, 0, 24, 0), -4);
        c.due("all day", x.clerk(9, 1, 0, 24, 2000), 1);
        c.due("an hour", x.clerk(9, 1, 23, 24, 1), 2);
        c.due("the first hour", x.clerk(0, 0, 0, 1, 1), 3);
    }

    private static void roomForClerks(Check c) {
        YoungBuyers x = twoShops();
        for (int i = 1; i <= 40; i++) {
            c.due("told " + i, x.clerk(i % 10, 0, 0, 24, 0), i);
        }
        c.due("a 41st", x.clerk(0, 0, 0, 24, 0), -6);
        c.due("a 41st, to 0", x.clerk(0, 0, 0, 0, 0), -4);
        x.test(0, 0, 0, 0, 0, 4);
        c.due("the latest told counts", x.tally(0, 0), 1);
    }

    private static void standing(Check c) {
        YoungBuyers x = twoShops();
        x.clerk(1, 0, 8, 12, 0);
        x.clerk(2, 0, 10, 14, 3);
        x.clerk(3, 1, 0, 24, 0);
        x.days(5);
        x.test(0, 0, 0, 0, 7, 4);
        x.test(0, 0, 0, 0, 8, 4);
        x.test(0, 0, 0, 2, 11, 0);
        x.test(0, 0, 0, 2, 12, 4);
        x.test(0, 0, 0, 3, 11, 4);
        x.test(1, 0, 0, 3, 11, 4);
        x.test(0, 0, 0, 3, 13, 0);
        x.test(0, 0, 0, 3, 14, 4);
        c.due("clerk -1", x.tally(-1, 9), -1);
        c.due("clerk 10", x.tally(10, 9), -1);
        c.due("what 2", x.tally(1, 2), -2);
        c.due("what -1", x.tally(1, -1), -2);
        c.due("tests of 1", x.tally(1, 0), 2);
        c.due("sold of 1", x.tally(1, 1), 1);
        c.due("tests of 2", x.tally(2, 0), 2);
        c.due("sold of 2", x.tally(2, 1), 1);
        c.due("tests of 3", x.tally(3, 0), 1);
        c.due("tests of 4", x.tally(4, 0), 0);
        x.clerk(4, 0, 0, 24, 5);
        x.test(0, 0, 0, 4, 12, 4);
        x.test(0, 0, 0, 5, 12, 4);
        c.due("from 5 on it is 4", x.tally(4, 0), 1);
        c.due("the day ahead it was 2", x.tally(2, 0), 3);
        x.clerk(5, 0, 12, 13, 5);
        c.due("told later of the same day", x.tally(4, 0), 0);
        c.due("told later of the same day", x.tally(5, 0), 1);
        x.appeal(1);
        c.due("a voided test", x.tally(1, 0), 1);
        c.due("a voided test", x.tally(1, 1), 0);
        Check.rule(x, "h<12", 0, 5);
        c.due("a test that is not good", x.tally(5, 0), 0);
    }

    private static void worst(Check c) {
        YoungBuyers x = twoShops();
        for (int i = 0; i < 6; i++) {
            x.clerk(9 - i, 0, 4 * i, 4 * i + 4, 0);
        }
        c.due("none", x.worst(), -9);
        x.test(0, 0, 0, 0, 0, 4);
        c.due("one test is too few", x.worst(), -9);
        x.test(0, 0, 0, 0, 4, 0);
        x.test(0, 0, 0, 0, 5, 0);
        c.due("none sold of two", x.worst(), 8);
        x.test(0, 0, 0, 0, 8, 0);
        x.test(0, 0, 0, 0, 9, 0);
        c.due("of several the least", x.worst(), 7);
        x.test(0, 0, 0, 0, 6, 4);
        c.due("a third", x.worst(), 8);
        x.test(0, 0, 0, 0, 8, 4);
        x.test(0, 0, 0, 0, 8, 0);
        c.due("a fourth is less", x.worst(), 8);
        x.test(0, 0, 0, 0, 1, 0);
        c.due("a half", x.worst(), 9);
        for (int i = 0; i < 3; i++) {
            x.test(0, 0, 0, 0, 12, 4);
            x.test(0, 0, 0, 0, 13, 0);
        }
        c.due("3 by 6 is a half too", x.worst(), 6);
        c.due("none is no refusal", x.count(11) + x.count(12) + x.count(13), 0);
    }
}
