import java.util.Arrays;

/** Boundary cases of promises 23 to 25 and of "Terms" V. */
public final class EdgesWorkTest {
    public static void main(String[] args) {
        Check c = new Check();
        leaves(c);
        workArguments(c);
        workOrder(c);
        workAtArguments(c);
        workAtPlaces(c);
        drawnAndOpen(c);
        eightAtMost(c);
        whoMay(c);
        testsThatCountNow(c);
        lostOnesToo(c);
        timeOfATeam(c);
        leaveIsTheMost(c);
        theLongerIsLeast(c);
        thenTheShorter(c);
        thenTheFirstShop(c);
        orderOfATeam(c);
        c.end();
    }

    /** SHOPS at these places, all drawn; CHILDREN 0 and 1; any LEAVE. */
    private static YoungBuyers at(int... places) {
        YoungBuyers x = new YoungBuyers();
        for (int i = 0; i + 1 < places.length; i += 2) {
            x.shop(0, 0, places[i], places[i + 1]);
        }
        x.child(0, -5000);
        x.child(1, -5000);
        x.leave(2000);
        x.draw(40, 0);
        return x;
    }

    private static YoungBuyers knownToAll(int child, int... places) {
        YoungBuyers x = at(places);
        for (int i = 0; i < places.length / 2; i++) {
            x.known(child, i, true);
        }
        return x;
    }

    private static void times(Check c, String name, YoungBuyers x, int longer, int shorter) {
        c.due(name + ": longer", x.work(0, 1, 0), longer);
        c.due(name + ": shorter", x.work(0, 1, 1), shorter);
    }

    private static void way(Check c, YoungBuyers x, boolean second, int... shops) {
        for (int i = 0; i < shops.length; i++) {
            c.due("stop " + i + " of " + second, x.workAt(0, 1, second, i), shops[i]);
        }
        c.due("no stop more", x.workAt(0, 1, second, shops.length), -9);
    }

    /** "LEAVE (0 .. 2000; 300 at first)"; "what it was. -4; -6." */
    private static void leaves(Check c) {
        Twins.range(c, "v", Twins::busy, Twins.of(0, 2000), Twins.of(-4, -6), YoungBuyers::leave, v -> 400);
        c.due("at first", new YoungBuyers().leave(0), 300);
        YoungBuyers x = new YoungBuyers();
        int was = 300;
        for (int v : new int[] {0, 1, 1999, 2000, 2000}) {
            c.due("what it was", x.leave(v), was);
            was = v;
        }
    }

    /** "-1 (also one); -5 (also nothing drawn); -2." */
    private static void workArguments(Check c) {
        Twins.Town t = Twins::busy;
        Twins.Town all = () -> {
            YoungBuyers x = at(1, 1);
            for (int child = 0; child < 8; child++) {
                x.child(child, -5000);
            }
            return x;
        };
        Twins.range(c, "c", all, Twins.of(0, 6), Twins.of(-1, -1), (x, v) -> x.work(v, 7, 0), v -> 14);
        Twins.range(c, "e", all, Twins.of(1, 7), Twins.of(-1, -1), (x, v) -> x.work(0, v, 0), v -> 14);
        for (int child = 0; child < 8; child++) {
            int one = child;
            Twins.refuses(c, "one child " + child, all, -1, x -> x.work(one, one, 0));
        }
        Twins.refuses(c, "c 8", all, -1, x -> x.work(8, 0, 0));
        Twins.refuses(c, "e -1", all, -1, x -> x.work(0, -1, 0));
        int[] due = {14, 0};
        Twins.range(c, "what", all, Twins.of(0, 1), Twins.of(-2, -2), (x, v) -> x.work(0, 1, v), v -> due[v]);
        Twins.refuses(c, "c is not told", t, -5, x -> x.work(3, 0, 0));
        Twins.refuses(c, "e is not told", t, -5, x -> x.work(0, 7, 0));
        Twins.refuses(c, "neither is told", t, -5, x -> x.work(3, 7, 1));
        Twins.Town notDrawn = EdgesWorkTest::notDrawn;
        Twins.refuses(c, "nothing drawn", notDrawn, -5, x -> x.work(0, 1, 0));
        YoungBuyers x = notDrawn();
        x.draw(1, 0);
        c.due("one drawn", x.work(0, 1, 0), 10);
    }

    private static YoungBuyers notDrawn() {
        YoungBuyers x = new YoungBuyers();
        x.shop(0, 0, 0, 0);
        x.child(0, -5000);
        x.child(1, -5000);
        return x;
    }

    private static void workOrder(Check c) {
        Twins.Town t = Twins::busy;
        Twins.refuses(c, "no child, not told, what", t, -1, x -> x.work(8, 7, 2));
        Twins.refuses(c, "one child that is not told", t, -1, x -> x.work(7, 7, 2));
        Twins.refuses(c, "not told, what", t, -5, x -> x.work(0, 7, 2));
        Twins.refuses(c, "nothing drawn, what", EdgesWorkTest::notDrawn, -5, x -> x.work(0, 1, -1));
        Twins.refuses(c, "nothing drawn, no child", EdgesWorkTest::notDrawn, -1, x -> x.work(0, 8, -1));
    }

    /** "-9 there is none such. -1; -5." */
    private static void workAtArguments(Check c) {
        Twins.Town t = Twins::busy;
        Twins.refuses(c, "c -1", t, -1, x -> x.workAt(-1, 0, false, 0));
        Twins.refuses(c, "c 8", t, -1, x -> x.workAt(8, 0, false, 0));
        Twins.refuses(c, "e -1", t, -1, x -> x.workAt(0, -1, true, 0));
        Twins.refuses(c, "e 8", t, -1, x -> x.workAt(0, 8, true, 0));
        Twins.refuses(c, "one child", t, -1, x -> x.workAt(2, 2, true, 0));
        Twins.refuses(c, "one child that is not told", t, -1, x -> x.workAt(7, 7, true, 0));
        Twins.refuses(c, "c is not told", t, -5, x -> x.workAt(3, 0, false, 0));
        Twins.refuses(c, "e is not told", t, -5, x -> x.workAt(0, 3, false, -1));
        Twins.refuses(c, "nothing drawn", EdgesWorkTest::notDrawn, -5, x -> x.workAt(0, 1, false, 0));
        Twins.refuses(c, "nothing drawn", EdgesWorkTest::notDrawn, -5, x -> x.workAt(0, 1, true, 99));
    }

    private static void workAtPlaces(Check c) {
        Twins.Town two = () -> at(10, 0, 20, 0, 0, 10);
        c.due("the first of c", two.make().workAt(0, 1, false, 0), 0);
        c.due("the second of c", two.make().workAt(0, 1, false, 1), 1);
        Twins.leaves(c, "no third of c", two, -9, x -> x.workAt(0, 1, false, 2));
        c.due("the first of e", two.make().workAt(0, 1, true, 0), 2);
        Twins.leaves(c, "no second of e", two, -9, x -> x.workAt(0, 1, true, 1));
        for (int i : new int[] {Integer.MIN_VALUE, -1, 8, 40, Integer.MAX_VALUE}) {
            Twins.leaves(c, "no stop " + i + " of c", two, -9, x -> x.workAt(0, 1, false, i));
            Twins.leaves(c, "no stop " + i + " of e", two, -9, x -> x.workAt(0, 1, true, i));
        }
        YoungBuyers eight = knownToAll(1, 1, 0, 2, 0, 3, 0, 4, 0, 5, 0, 6, 0, 7, 0, 8, 0);
        way(c, eight, false, 0, 1, 2, 3, 4, 5, 6, 7);
        way(c, eight, true);
        YoungBuyers none = knownToAll(1, 1, 0);
        none.known(0, 0, true);
        c.due("without work", none.workAt(0, 1, false, 0), -9);
        c.due("without work", none.workAt(0, 1, true, 0), -9);
        Twins.leaves(c, "without work", () -> {
            YoungBuyers x = knownToAll(1, 1, 0);
            x.known(0, 0, true);
            return x;
        }, -9, x -> x.work(0, 1, 0));
    }

    /** "SHOPS that were drawn and are OPEN." */
    private static void drawnAndOpen(Check c) {
        YoungBuyers x = at(10, 0, 0, 20);
        times(c, "both", x, 50, 30);
        x.shop(0, 0, 60, 60);
        times(c, "one that was not drawn", x, 50, 30);
        x.open(1, false);
        times(c, "one is shut", x, 30, 0);
        way(c, x, false, 0);
        x.open(0, false);
        times(c, "all are shut: nothing to do", x, 0, 0);
        way(c, x, false);
        way(c, x, true);
        x.leave(0);
        times(c, "nothing to do without leave", x, 0, 0);
        x.open(0, true);
        times(c, "something to do without leave", x, -9, -9);
    }

    /** "8 at most of the least numbers." */
    private static void eightAtMost(Check c) {
        int[] far = {0, 0, 0, 0, 0, 0, 0, 0, 0, 0, 0, 0, 50, 0, 0, 55, 60, 0, 0, 60};
        YoungBuyers seven = at(Arrays.copyOf(far, 14));
        times(c, "seven", seven, 110, 60);
        YoungBuyers eight = at(Arrays.copyOf(far, 16));
        // 50 and four at home take 150, 55 and two at home 140.
        times(c, "eight", eight, 150, 140);
        YoungBuyers nine = at(Arrays.copyOf(far, 18));
        times(c, "nine: the last is left out", nine, 150, 140);
        YoungBuyers ten = at(far);
        times(c, "ten: the last two are left out", ten, 150, 140);
        ten.open(0, false);
        c.due("one is shut: the ninth comes in", stops(ten, 8), 1);
        c.due("but not the tenth", stops(ten, 9), 0);
        ten.open(7, false);
        c.due("two are shut: the tenth comes in", stops(ten, 9), 1);
    }

    private static int stops(YoungBuyers x, int shop) {
        int found = 0;
        for (int i = 0; i < 16; i++) {
            found += x.workAt(0, 1, i >= 8, i % 8) == shop ? 1 : 0;
        }
        return found;
    }

    /** "A SHOP may be done by a CHILD who is not KNOWN there." */
    private static void whoMay(Check c) {
        YoungBuyers x = at(10, 0);
        way(c, x, false, 0);
        x.known(0, 0, true);
        way(c, x, false);
        way(c, x, true, 0);
        x.known(1, 0, true);
        times(c, "known to both", x, -9, -9);
        x.known(0, 0, false);
        way(c, x, false, 0);
        YoungBuyers two = at(10, 0, 0, 10);
        two.known(0, 0, true);
        two.known(1, 0, true);
        times(c, "each of these shops must be done", two, -9, -9);
        two.open(0, false);
        times(c, "the shut one need not", two, 30, 0);
    }

    /** "And had no TEST there that counts now." */
    private static void testsThatCountNow(Check c) {
        YoungBuyers x = at(10, 0, 0, 10);
        x.known(1, 0, true);
        x.known(1, 1, true);
        times(c, "both by the first", x, 60, 0);
        x.test(0, 1, 0, 0, 0, 0);
        times(c, "a test of the other child", x, 60, 0);
        x.test(0, 0, 0, 0, 0, 0);
        times(c, "a test of the first", x, -9, -9);
        x.appeal(1);
        times(c, "voided on the same day", x, 60, 0);
        Check.rule(x, "0", 0, 0);
        x.test(1, 0, 0, 0, 0, 0);
        times(c, "one that is not good counts", x, -9, -9);
        x.days(1);
        times(c, "a day later, too", x, -9, -9);
        x.appeal(2);
        times(c, "voided a day later", x, 60, 0);
        YoungBuyers y = at(10, 0, 10, 0, 10, 0);
        y.test(1, 0, 0, 0, 0, 0);
        way(c, y, false, 0, 2);
        way(c, y, true, 1);
        y.test(0, 1, 0, 0, 0, 0);
        way(c, y, false, 0, 2);
        way(c, y, true, 1);
        y.test(2, 0, 0, 0, 0, 0);
        way(c, y, false, 0);
        way(c, y, true, 1, 2);
        y.test(0, 0, 0, 0, 0, 0);
        times(c, "both had a test in the first shop", y, -9, -9);
        YoungBuyers old = at(10, 0);
        old.test(0, 0, 0, 0, 0, 0);
        old.days(1);
        old.sell(0);
        way(c, old, true, 0);
        old.days(1999);
        old.test(0, 1, 0, 2000, 0, 0);
        times(c, "however long ago, whoever owned the shop then", old, -9, -9);
    }

    /** "SHOPS that were drawn and are OPEN": LOST ones are drawn, done and tested like the others. */
    private static void lostOnesToo(Check c) {
        YoungBuyers x = at(10, 0, 0, 10);
        x.child(2, -5000);
        for (int use = 1; use <= 4; use++) {
            Check.rule(x, "1", use, 0);
        }
        for (int i = 0; i < 4; i++) {
            x.test(1, 2, 0, 0, 0, 4);
        }
        c.due("one is lost", x.lost(), 1);
        times(c, "both are to be done", x, 30, 30);
        way(c, x, false, 0);
        way(c, x, true, 1);
        c.due("both are drawn", x.draw(2, 0), 2);
        c.due("a lost one is tested", x.test(1, 2, 0, 0, 0, 4), 4);
        c.due("and goes no further", x.step(1, 0, 0), 4);
        c.due("and costs", x.most(39), 1);
    }

    /** "TIME of a team: its WAY and 10 for each SHOP; with none 0"; "begins at 0, 0 and comes back there". */
    private static void timeOfATeam(Check c) {
        times(c, "at 0, 0", at(0, 0), 10, 0);
        times(c, "at 0, 1", at(0, 1), 12, 0);
        times(c, "at 1, 0", at(1, 0), 12, 0);
        times(c, "at 60, 60", at(60, 60), 250, 0);
        times(c, "two at 0, 0", at(0, 0, 0, 0), 10, 10);
        times(c, "three at 0, 0", at(0, 0, 0, 0, 0, 0), 20, 10);
        YoungBuyers corners = knownToAll(1, 60, 60, 0, 60, 60, 0);
        times(c, "three corners by one team", corners, 270, 0);
    }

    /** "A team does at most LEAVE." */
    private static void leaveIsTheMost(Check c) {
        YoungBuyers x = at(10, 0, 0, 20);
        int[][] due = {{51, 50, 30}, {50, 50, 30}, {49, -9, -9}, {30, -9, -9}, {0, -9, -9}, {2000, 50, 30}};
        for (int[] d : due) {
            x.leave(d[0]);
            times(c, "leave " + d[0], x, d[1], d[2]);
        }
        YoungBuyers first = at(60, 60, 60, 60, 0, 50, 50, 0);
        first.leave(300);
        for (int i = 0; i < 4; i++) {
            first.known(1, i, true);
        }
        times(c, "240 and 40", first, 280, 0);
        first.leave(280);
        times(c, "leave 280", first, 280, 0);
        first.leave(279);
        times(c, "leave 279", first, -9, -9);
        c.due("leave 279: no stop", first.workAt(0, 1, false, 0), -9);
    }

    private static void theLongerIsLeast(Check c) {
        YoungBuyers x = at(60, 0, 60, 0);
        times(c, "130 and 130, not 140 and 0", x, 130, 130);
        way(c, x, false, 0);
        way(c, x, true, 1);
        YoungBuyers y = at(60, 0, 59, 0, 1, 0);
        times(c, "138 and 130, not 140 and 128", y, 138, 130);
        way(c, y, false, 0);
        way(c, y, true, 1, 2);
    }

    /** "Of these the shorter one." */
    private static void thenTheShorter(Check c) {
        // 0 and 2 take 90 and leave 60; 0 and 1 take 90, too, but leave 70.
        YoungBuyers x = at(10, 5, 0, 25, 30, 0);
        times(c, "90 and 60, not 90 and 70", x, 90, 60);
        way(c, x, false, 0, 2);
        way(c, x, true, 1);
        x.known(0, 2, true);
        x.known(1, 1, true);
        x.known(1, 0, true);
        times(c, "the others may not be parted so", x, 90, 70);
        way(c, x, false, 0, 1);
        way(c, x, true, 2);
        YoungBuyers z = at(30, 0, 30, 0, 0, 25);
        z.known(1, 0, true);
        z.known(0, 1, true);
        times(c, "70 and 130, or 130 and 70: the same shorter", z, 130, 70);
        way(c, z, false, 0, 2);
        way(c, z, true, 1);
    }

    /** "Of these the one in which the first SHOP by numbers is c's rather than e's, then the second one." */
    private static void thenTheFirstShop(Check c) {
        YoungBuyers one = at(10, 0);
        way(c, one, false, 0);
        c.due("c is the first that is told", one.workAt(1, 0, false, 0), 0);
        YoungBuyers three = at(10, 0, 10, 0, 10, 0);
        times(c, "two and one", three, 40, 30);
        way(c, three, false, 0, 1);
        way(c, three, true, 2);
        three.known(0, 0, true);
        way(c, three, false, 1, 2);
        way(c, three, true, 0);
        three.known(0, 0, false);
        three.known(0, 1, true);
        way(c, three, false, 0, 2);
        way(c, three, true, 1);
        YoungBuyers nothing = knownToAll(0, 10, 0, 10, 0);
        way(c, nothing, false);
        way(c, nothing, true, 0, 1);
    }

    /** "Of the shortest WAY, of several the one whose SHOPS from the first on have the least numbers." */
    private static void orderOfATeam(Check c) {
        YoungBuyers line = knownToAll(1, 30, 0, 10, 0, 20, 0);
        way(c, line, false, 0, 2, 1);
        YoungBuyers round = knownToAll(1, 0, 20, 20, 20, 20, 0);
        way(c, round, false, 0, 1, 2);
        YoungBuyers other = knownToAll(1, 20, 20, 20, 0, 0, 20);
        way(c, other, false, 1, 0, 2);
        YoungBuyers same = knownToAll(1, 5, 5, 5, 5, 5, 5);
        way(c, same, false, 0, 1, 2);
        YoungBuyers second = knownToAll(0, 20, 20, 0, 20, 20, 0);
        way(c, second, true, 1, 0, 2);
    }
}
