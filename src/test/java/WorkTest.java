/** Promises 23 to 25: leave, work, workAt. */
public final class WorkTest {
    public static void main(String[] args) {
        Check c = new Check();
        leave(c);
        refusals(c);
        nothingOpen(c);
        oneShop(c);
        firstShopsToTheFirst(c);
        orderOfLeastNumbers(c);
        whoMay(c);
        leaveIsALimit(c);
        eightAtMost(c);
        c.end();
    }

    private static YoungBuyers at(int... places) {
        YoungBuyers x = new YoungBuyers();
        for (int i = 0; i + 1 < places.length; i += 2) {
            x.shop(0, 0, places[i], places[i + 1]);
        }
        x.child(0, -5000);
        x.child(1, -5000);
        x.draw(40, 0);
        return x;
    }

    private static void way(Check c, YoungBuyers x, boolean second, int... shops) {
        for (int i = 0; i < shops.length; i++) {
            c.due("stop " + i + " of " + second, x.workAt(0, 1, second, i), shops[i]);
        }
        c.due("no stop more", x.workAt(0, 1, second, shops.length), -9);
        c.due("no stop -1", x.workAt(0, 1, second, -1), -9);
    }

    private static void leave(Check c) {
        YoungBuyers x = new YoungBuyers();
        c.due("-1", x.leave(-1), -4);
        c.due("2001", x.leave(2001), -6);
        c.due("0", x.leave(0), 300);
        c.due("2000", x.leave(2000), 0);
        c.due("2000 again", x.leave(2000), 2000);
    }

    private static void refusals(Check c) {
        YoungBuyers x = new YoungBuyers();
        c.due("child 8", x.work(0, 8, 9), -1);
        c.due("child -1", x.work(-1, 0, 9), -1);
        c.due("one child", x.work(3, 3, 9), -1);
        c.due("not told", x.work(0, 1, 9), -5);
        c.due("not told", x.workAt(0, 1, true, 0), -5);
        x.child(0, -5000);
        x.child(1, -5000);
        c.due("nothing drawn", x.work(0, 1, 9), -5);
        c.due("nothing drawn", x.workAt(0, 1, false, 0), -5);
        x.shop(0, 0, 0, 0);
        x.draw(1, 0);
        c.due("the second is not told", x.work(0, 2, 9), -5);
        c.due("the first is not told", x.work(2, 0, 9), -5);
        c.due("what 2", x.work(0, 1, 2), -2);
        c.due("what -1", x.work(0, 1, -1), -2);
        c.due("one child", x.workAt(1, 1, true, 0), -1);
        c.due("child 8", x.workAt(8, 1, true, 0), -1);
        c.due("work", x.work(0, 1, 0), 10);
    }

    private static void nothingOpen(Check c) {
        YoungBuyers x = at(5, 5);
        x.open(0, false);
        c.due("nothing to do", x.work(0, 1, 0), 0);
        c.due("nothing to do", x.work(0, 1, 1), 0);
        way(c, x, false);
        way(c, x, true);
    }

    private static void oneShop(Check c) {
        YoungBuyers x = at(7, 3);
        c.due("way 20 and 10", x.work(0, 1, 0), 30);
        c.due("the other rests", x.work(0, 1, 1), 0);
        way(c, x, false, 0);
        way(c, x, true);
        c.due("the first named goes", x.workAt(1, 0, false, 0), 0);
    }

    private static void firstShopsToTheFirst(Check c) {
        YoungBuyers x = at(10, 0, 10, 0, 10, 0, 10, 0);
        c.due("two each", x.work(0, 1, 0), 40);
        c.due("two each", x.work(0, 1, 1), 40);
        way(c, x, false, 0, 1);
        way(c, x, true, 2, 3);
        YoungBuyers y = at(20, 0, 10, 0, 0, 10, 0, 20);
        c.due("longer", y.work(0, 1, 0), 60);
        way(c, y, false, 0, 1);
        way(c, y, true, 2, 3);
    }

    private static void orderOfLeastNumbers(Check c) {
        YoungBuyers x = at(10, 0, 20, 0, 30, 0, 5, 0);
        for (int i = 0; i < 4; i++) {
            x.known(1, i, true);
        }
        c.due("all by the first", x.work(0, 1, 0), 100);
        way(c, x, false, 0, 1, 2, 3);
        YoungBuyers y = at(30, 0, 20, 0, 10, 0, 5, 0);
        for (int i = 0; i < 4; i++) {
            y.known(0, i, true);
        }
        c.due("all by the second", y.work(0, 1, 0), 100);
        way(c, y, true, 0, 1, 2, 3);
        YoungBuyers z = at(10, 10, 10, 0, 0, 10);
        for (int i = 0; i < 3; i++) {
            z.known(1, i, true);
        }
        c.due("round the square", z.work(0, 1, 0), 70);
        way(c, z, false, 1, 0, 2);
    }

    private static void whoMay(Check c) {
        YoungBuyers x = at(10, 0, 0, 10);
        x.known(0, 0, true);
        way(c, x, false, 1);
        way(c, x, true, 0);
        x.test(1, 0, 0, 0, 9, 0);
        c.due("both by the second", x.work(0, 1, 1), 0);
        way(c, x, true, 0, 1);
        x.known(1, 1, true);
        c.due("nobody may", x.work(0, 1, 0), -9);
        c.due("nobody may", x.work(0, 1, 1), -9);
        c.due("nobody may", x.workAt(0, 1, true, 0), -9);
        x.days(1);
        x.appeal(0);
        c.due("a voided test", x.work(0, 1, 0), 30);
        x.child(0, -5000);
        x.known(1, 0, true);
        c.due("told anew, nowhere known", x.work(0, 1, 0), 60);
        Check.rule(x, "0", 0, 1);
        x.test(1, 0, 0, 1, 9, 0);
        c.due("a test that is not good counts", x.work(0, 1, 0), -9);
    }

    private static void leaveIsALimit(Check c) {
        YoungBuyers x = at(60, 60, 60, 60);
        c.due("two teams of 250", x.work(0, 1, 0), 250);
        x.leave(250);
        c.due("leave 250", x.work(0, 1, 0), 250);
        x.leave(249);
        c.due("leave 249", x.work(0, 1, 0), -9);
        c.due("leave 249", x.workAt(0, 1, false, 0), -9);
        x.leave(260);
        x.known(0, 0, true);
        x.known(0, 1, true);
        c.due("one team of 260", x.work(0, 1, 0), 260);
        c.due("one team of 260", x.work(0, 1, 1), 0);
    }

    private static void eightAtMost(Check c) {
        YoungBuyers x = at(0, 0, 0, 0, 0, 0, 0, 0, 0, 0, 0, 0, 0, 0, 0, 0, 60, 60, 60, 60);
        c.due("the first eight", x.work(0, 1, 0), 40);
        way(c, x, false, 0, 1, 2, 3);
        way(c, x, true, 4, 5, 6, 7);
        x.open(0, false);
        x.leave(2000);
        c.due("the ninth comes in", x.work(0, 1, 0), 250);
        c.due("seven by the other", x.work(0, 1, 1), 70);
        way(c, x, false, 1, 2, 3, 4, 5, 6, 7);
        way(c, x, true, 8);
    }
}
