/** Promises 33 to 35: cost, most, count. */
public final class CostTest {
    public static void main(String[] args) {
        Check c = new Check();
        cost(c);
        most(c);
        mostByParts(c);
        count(c);
        c.end();
    }

    private static void cost(Check c) {
        YoungBuyers x = new YoungBuyers();
        c.due("kind -1", x.cost(-1, -1), -2);
        c.due("kind 5", x.cost(5, -1), -2);
        c.due("v -1", x.cost(0, -1), -4);
        c.due("v 501", x.cost(0, 501), -6);
        c.due("v 500", x.cost(4, 500), 20);
        c.due("v 0", x.cost(4, 0), 500);
        c.due("another kind", x.cost(3, 7), 20);
        c.due("v 7", x.cost(3, 7), 7);
    }

    private static void most(Check c) {
        YoungBuyers x = new YoungBuyers();
        c.due("no shop", x.most(-1), -3);
        x.shop(0, 0, 0, 0);
        x.open(0, false);
        c.due("all shut", x.most(30000), -3);
        x.open(0, true);
        c.due("-1", x.most(-1), -4);
        c.due("20001", x.most(20001), -6);
        c.due("19", x.most(19), 0);
        c.due("20", x.most(20), 40);
        c.due("20000", x.most(20000), 40);
        x.cost(0, 0);
        c.due("free", x.most(0), 40);
    }

    /** WEIGHTS 3, 1, 1, 1 and COSTS 100, 10, 10, 10: draws of 1 to 4 cost 55, 110, 120, 130. */
    private static void mostByParts(Check c) {
        YoungBuyers x = new YoungBuyers();
        for (int i = 0; i < 4; i++) {
            x.shop(i == 0 ? 0 : 1, 0, 0, 0);
        }
        x.weight(0, 3);
        x.cost(0, 100);
        x.cost(1, 10);
        x.draw(1, 999);
        c.due("54", x.most(54), 0);
        c.due("55", x.most(55), 1);
        c.due("109", x.most(109), 1);
        c.due("110", x.most(110), 2);
        c.due("119", x.most(119), 2);
        c.due("120", x.most(120), 3);
        c.due("129", x.most(129), 3);
        c.due("130", x.most(130), 40);
        x.weight(1, 2);
        // 2 of 7: 6/7 and 4/7, 2/7, 2/7: 680/7 is above 97.
        c.due("97", x.most(97), 1);
        c.due("98", x.most(98), 2);
        c.due("the latest draw stays", x.drawn(3, 0), 1);
        c.due("the latest draw stays", x.drawn(0, 1), 1);
        c.due("count(9)", x.count(9), 1);
    }

    private static void count(Check c) {
        YoungBuyers x = new YoungBuyers();
        c.due("what -1", x.count(-1), -9);
        c.due("what 18", x.count(18), -9);
        c.due("not a refusal", x.count(12), 0);
        x.days(7);
        x.shop(0, 0, 0, 0);
        x.shop(0, 0, 0, 0);
        x.shop(0, 0, 0, 0);
        x.open(1, false);
        x.child(4, -5000);
        x.child(4, -5000);
        Check.rule(x, "h", 0, 7);
        x.test(0, 4, 0, 7, 0, 4);
        x.test(0, 4, 0, 7, 1, 4);
        x.test(2, 4, 0, 7, 2, 4);
        x.test(2, 4, 0, 7, 3, 0);
        x.test(2, 4, 0, 7, 3, 0);
        x.appeal(1);
        x.draw(2, 0);
        x.letters(3);
        Check.feed(x, "abc");
        int[] due = {7, 3, 2, 1, 1, 5, 1, 3, 1, 2, 1};
        for (int what = 0; what < due.length; what++) {
            c.due("count(" + what + ")", x.count(what), due[what]);
        }
        x.weight(9, 1);
        for (int i = 0; i < 2; i++) {
            x.cost(9, 1);
        }
        for (int i = 0; i < 3; i++) {
            x.appeal(1);
        }
        for (int i = 0; i < 4; i++) {
            x.days(0);
        }
        for (int i = 0; i < 5; i++) {
            x.guess(0, 9);
        }
        for (int i = 0; i < 6; i++) {
            x.leave(9999);
        }
        for (int i = 1; i <= 6; i++) {
            c.due("count(" + (10 + i) + ")", x.count(10 + i), i);
        }
        c.due("count(17)", x.count(17), 3);
    }
}
