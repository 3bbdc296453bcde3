/** All that has a greatest number is at it, at once and on the last DAY; then all is asked, and no more goes in. */
public final class EdgesFullTest {
    public static void main(String[] args) {
        Check c = new Check();
        noRoom(c);
        numbers(c);
        teams(c);
        theLastTest(c);
        tables(c);
        c.end();
    }

    /**
     * 40 SHOPS in a row, all drawn, SHOP 0 with six OWNERS; 8 CHILDREN, 20 RULES that always hold, 40 shifts,
     * 80 bytes, 100 TESTS on DAY 2000 that SOLD: two in each SHOP by one CHILD, and 20 more in the last one.
     */
    private static YoungBuyers full() {
        YoungBuyers x = new YoungBuyers();
        for (int i = 0; i < 40; i++) {
            x.shop(i % 5, i % 4, i, 0);
            x.clerk(i % 10, i, 0, 24, 0);
        }
        for (int i = 0; i < 8; i++) {
            x.child(i, -7000);
        }
        for (int i = 0; i < 12; i++) {
            x.guess(7, 8 + i);
        }
        for (int i = 0; i < 20; i++) {
            x.feed(1, '1');
            x.rule(i % 5, 0);
        }
        x.draw(40, 999);
        x.letters(99999);
        for (int i = 0; i < 5; i++) {
            x.days(1);
            x.sell(0);
        }
        x.days(1995);
        for (int i = 0; i < 100; i++) {
            x.test(i < 80 ? i % 40 : 39, i % 8, 3, 2000, 23, 7);
        }
        for (int i = 0; i < 10; i++) {
            x.feed(8, -1L);
        }
        return x;
    }

    private static void noRoom(Check c) {
        YoungBuyers x = full();
        Twins.Call[] calls = {y -> y.days(1), y -> y.shop(0, 0, 0, 0), y -> y.sell(0), y -> y.guess(7, 8),
            y -> y.feed(1, 0L), y -> y.rule(0, 2000), y -> y.test(0, 0, 0, 2000, 0, 0),
            y -> y.clerk(0, 0, 0, 24, 2000)};
        int[] before = new int[18];
        for (int what = 0; what < 18; what++) {
            before[what] = x.count(what);
        }
        for (int i = 0; i < calls.length; i++) {
            c.due("no room, call " + i, calls[i].on(x), -6);
            c.due("refusals", x.count(16), i + 1);
        }
        for (int what = 0; what < 18; what++) {
            if (what != 16) {
                c.due("count(" + what + ") as before", x.count(what), before[what]);
            }
        }
    }

    private static void numbers(Check c) {
        YoungBuyers x = full();
        int[] due = {2000, 40, 40, 8, 20, 100, 0, 100, 100, 40, 20, 0, 0, 0, 0, 0, 0, 80};
        for (int what = 0; what < 18; what++) {
            c.due("count(" + what + ")", x.count(what), due[what]);
        }
        c.due("lost", x.lost(), 1);
        c.due("steps of the last shop", x.step(39, 2000, 2000), 4);
        c.due("steps of the first one", x.step(0, 2000, 2000), 2);
        c.due("its fifth owner", x.step(0, 4, 2000), 0);
        for (int use = 0; use < 5; use++) {
            c.due("in force", x.force(use, 2000), 15 + use);
        }
        c.due("looks", x.childOf(7, 1), 14);
        c.due("age", x.childOf(7, 0), 24);
        c.due("all that a year costs", x.most(800), 40);
        c.due("a bit less", x.most(799), 39);
        c.due("the tape", x.rule(0, 1999), -4);
    }

    /** CHILD 0 had a TEST in SHOP 0 and CHILD 1 in SHOP 1; the other six of the first eight go either way. */
    private static void teams(Check c) {
        YoungBuyers x = full();
        c.due("longer", x.work(0, 1, 0), 54);
        c.due("shorter", x.work(0, 1, 1), 48);
        int[] first = {1, 2, 3, 4, -9};
        int[] second = {0, 5, 6, 7, -9};
        for (int i = 0; i < 5; i++) {
            c.due("stop of c", x.workAt(0, 1, false, i), first[i]);
            c.due("stop of e", x.workAt(0, 1, true, i), second[i]);
        }
    }

    private static void theLastTest(Check c) {
        YoungBuyers x = full();
        int[] led = {1, 2, 3, 4, 0};
        int[] tests = {39, 79, 80, 81, 82};
        for (int i = 0; i < 5; i++) {
            c.due("led to", x.testOf(tests[i], 2000, 2), led[i]);
        }
        c.due("the last one counts", x.testOf(99, 2000, 0), 1);
        c.due("it is good", x.testOf(99, 2000, 1), 1);
        c.due("it was not known by 1999", x.testOf(99, 1999, 0), 0);
        int[] due = {24, 24, 1, 0, 1, 23, 2, 0, 0, 21, 21, 1, 4};
        for (int i = 0; i < due.length; i++) {
            char letter = "abcdghkmnopsy".charAt(i);
            c.due("fact " + letter, x.fact(99, 2000, letter), due[i]);
        }
        c.due("voided", x.appeal(99), 1);
        c.due("99 good ones", x.count(7), 99);
    }

    private static void tables(Check c) {
        YoungBuyers x = full();
        long[] back = {40, 1, 40, 1};
        for (int what = 0; what < 4; what++) {
            c.due("back(" + what + ")", x.back(what), back[what]);
        }
        long[] helped = {1, 1, 20, 20, 20, 20, 0};
        long[] wards = {1, 1, 10, 10, 10, 10, 0};
        for (int what = 0; what < 7; what++) {
            c.due("helped(2000, " + what + ")", x.helped(2000, what), helped[what]);
            c.due("wards(2, 3, 2000, " + what + ")", x.wards(2, 3, 2000, what), wards[what]);
        }
        for (int clerk = 0; clerk < 10; clerk++) {
            c.due("tally of " + clerk, x.tally(clerk, 0), clerk == 9 ? 28 : 8);
            c.due("sold of " + clerk, x.tally(clerk, 1), clerk == 9 ? 28 : 8);
        }
        c.due("worst", x.worst(), 0);
        c.due("drawn anew", x.draw(39, 999), 39);
        c.due("above", x.drawn(39, 1), 39);
        c.due("below", x.drawn(39, 2), 40);
        c.due("back of 39", x.back(2), 40);
        c.due("back of 39", x.back(3), 1);
        // One that was drawn has no TEST that counts any more.
        x.open(0, false);
        x.draw(39, 0);
        x.appeal(1);
        x.appeal(41);
        c.due("38 of them sold", x.back(0), 38);
        c.due("39 of them", x.back(2), 39);
        c.due("38 of them in the table", x.helped(2000, 4), 38);
    }
}
