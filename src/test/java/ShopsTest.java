/** Promises 2 to 6: days, shop, weight, open, sell. */
public final class ShopsTest {
    public static void main(String[] args) {
        Check c = new Check();
        days(c);
        shop(c);
        weight(c);
        open(c);
        sell(c);
        c.end();
    }

    private static void days(Check c) {
        YoungBuyers x = new YoungBuyers();
        c.due("days(0)", x.days(0), -4);
        c.due("days(least)", x.days(Integer.MIN_VALUE), -4);
        c.due("days(1)", x.days(1), 1);
        c.due("days(2000)", x.days(2000), -6);
        c.due("days(greatest)", x.days(Integer.MAX_VALUE), -6);
        c.due("days(1999)", x.days(1999), 2000);
        c.due("days(1)", x.days(1), -6);
        c.due("days(0) at the end", x.days(0), -4);
        c.due("count(0)", x.count(0), 2000);
        c.due("count(14)", x.count(14), 3);
        c.due("count(16)", x.count(16), 3);
    }

    private static void shop(Check c) {
        YoungBuyers x = new YoungBuyers();
        c.due("kind below", x.shop(-1, 9, -1, 99), -2);
        c.due("kind above", x.shop(5, 9, -1, 99), -2);
        c.due("ward above", x.shop(0, 4, -1, 99), -1);
        c.due("ward below", x.shop(0, -1, -1, 99), -1);
        c.due("x below, y above", x.shop(0, 0, -1, 99), -4);
        c.due("x above, y below", x.shop(0, 0, 99, -1), -4);
        c.due("x above", x.shop(0, 0, 61, 0), -6);
        c.due("y above", x.shop(0, 0, 0, 61), -6);
        for (int i = 0; i < 40; i++) {
            c.due("shop " + i, x.shop(i % 5, i % 4, 60, 60), i);
        }
        c.due("the 41st", x.shop(0, 0, 0, 0), -6);
        c.due("the 41st, x below", x.shop(0, 0, -1, 0), -4);
        c.due("count(1)", x.count(1), 40);
        c.due("count(2)", x.count(2), 40);
        c.due("count(12)", x.count(12), 2);
        c.due("count(11)", x.count(11), 2);
    }

    private static void weight(Check c) {
        YoungBuyers x = new YoungBuyers();
        c.due("no shop", x.weight(0, 5), -1);
        x.shop(0, 0, 0, 0);
        c.due("shop below", x.weight(-1, 5), -1);
        c.due("no shop, w below", x.weight(1, 0), -1);
        c.due("w 0", x.weight(0, 0), -4);
        c.due("w 21", x.weight(0, 21), -6);
        c.due("w 20", x.weight(0, 20), 1);
        c.due("w 1", x.weight(0, 1), 20);
        c.due("w 1 again", x.weight(0, 1), 1);
    }

    private static void open(Check c) {
        YoungBuyers x = new YoungBuyers();
        c.due("no shop", x.open(0, true), -1);
        x.shop(0, 0, 0, 0);
        c.due("open already", x.open(0, true), 0);
        c.due("shut", x.open(0, false), 1);
        c.due("count(2)", x.count(2), 0);
        c.due("shut already", x.open(0, false), 0);
        c.due("open", x.open(0, true), 1);
        c.due("shop below", x.open(-1, true), -1);
        c.due("count(2)", x.count(2), 1);
    }

    private static void sell(Check c) {
        YoungBuyers x = new YoungBuyers();
        c.due("no shop", x.sell(0), -1);
        x.days(3);
        x.shop(0, 0, 0, 0);
        c.due("told on this day", x.sell(0), -3);
        for (int n = 2; n <= 6; n++) {
            x.days(1);
            c.due("owner " + n, x.sell(0), n);
            c.due("sold on this day", x.sell(0), -3);
        }
        x.days(1);
        c.due("a seventh", x.sell(0), -6);
        c.due("count(13)", x.count(13), 6);
    }
}
