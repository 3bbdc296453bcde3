/** Boundary cases of promises 7 to 10 and of what "Terms" I says of CHILDREN. */
public final class EdgesChildrenTest {
    public static void main(String[] args) {
        Check c = new Check();
        childArguments(c);
        toldAgain(c);
        refusedAgain(c);
        ages(c);
        guessArguments(c);
        guessOrder(c);
        twelveGuesses(c);
        looks(c);
        childOfArguments(c);
        knownArguments(c);
        knownOrNot(c);
        c.end();
    }

    private static YoungBuyers born(int day) {
        YoungBuyers x = new YoungBuyers();
        x.child(0, day);
        return x;
    }

    private static YoungBuyers guessed(int times) {
        YoungBuyers x = born(-5000);
        for (int i = 0; i < times; i++) {
            x.guess(0, 10 + i);
        }
        return x;
    }

    /** "CHILDREN 0 .. 7"; "BORN on a DAY (-7000 .. -3000)"; "-1; -4; -6." */
    private static void childArguments(Check c) {
        Twins.Town t = Twins::busy;
        Twins.range(c, "child", t, Twins.of(0, 7), Twins.of(-1, -1), (x, v) -> x.child(v, -4000), v -> v < 3 ? 0 : 1);
        Twins.range(c, "born", t, Twins.of(-7000, -3000), Twins.of(-4, -6), (x, v) -> x.child(3, v), v -> 1);
        Twins.range(c, "born, again", t, Twins.of(-7000, -3000), Twins.of(-4, -6), (x, v) -> x.child(1, v), v -> 0);
        Twins.refuses(c, "no child, too early", t, -1, x -> x.child(8, -7001));
        Twins.refuses(c, "no child, too late", t, -1, x -> x.child(-1, -2999));
        YoungBuyers x = new YoungBuyers();
        for (int i = 0; i < 8; i++) {
            c.due("children told", x.count(3), i);
            c.due("child " + i, x.child(i, -3000), 1);
        }
        c.due("all told", x.count(3), 8);
        c.due("again", x.child(7, -3000), 0);
        c.due("all told", x.count(3), 8);
    }

    /** "Again: anew, without GUESSES, nowhere KNOWN: 1; 0 if it was." */
    private static void toldAgain(Check c) {
        YoungBuyers x = guessed(12);
        for (int i = 0; i < 40; i++) {
            x.shop(0, 0, 0, 0);
            x.known(0, i, true);
        }
        x.child(1, -5000);
        x.guess(1, 25);
        x.known(1, 0, true);
        c.due("again", x.child(0, -6000), 0);
        c.due("its age", x.childOf(0, 0), 16);
        c.due("its looks", x.childOf(0, 1), 16);
        for (int i = 0; i < 40; i++) {
            c.due("not known in " + i, x.known(0, i, false), 0);
        }
        c.due("a first guess", x.guess(0, 8), 1);
        c.due("the first guess alone", x.childOf(0, 1), 8);
        c.due("another child keeps its guess", x.childOf(1, 1), 25);
        c.due("another child stays known", x.known(1, 0, true), 0);
    }

    private static void refusedAgain(Check c) {
        Twins.refuses(c, "again, too early", Twins::busy, -4, x -> x.child(0, -7001));
        Twins.refuses(c, "again, too late", Twins::busy, -6, x -> x.child(0, -2999));
    }

    /** "AGE on a DAY: days since then by 365, cut." */
    private static void ages(Check c) {
        c.due("3000 days", born(-3000).childOf(0, 0), 8);
        c.due("7000 days", born(-7000).childOf(0, 0), 19);
        c.due("3649 days", born(-3649).childOf(0, 0), 9);
        c.due("3650 days", born(-3650).childOf(0, 0), 10);
        c.due("3651 days", born(-3651).childOf(0, 0), 10);
        YoungBuyers x = born(-3649);
        x.shop(0, 0, 0, 0);
        x.days(1);
        c.due("a day later", x.childOf(0, 0), 10);
        x.test(0, 0, 0, 0, 0, 0);
        x.test(0, 0, 0, 1, 0, 0);
        c.due("on the day of the test", x.fact(0, 1, 'a'), 9);
        c.due("on the day of the test", x.fact(1, 1, 'a'), 10);
        x.days(364);
        c.due("364 days more", x.childOf(0, 0), 10);
        x.days(1);
        c.due("365 days more", x.childOf(0, 0), 11);
        YoungBuyers old = born(-7000);
        old.days(2000);
        c.due("9000 days", old.childOf(0, 0), 24);
    }

    /** "GUESSES of strangers: 8 .. 25 years"; "-1; -5; -4; -6." */
    private static void guessArguments(Check c) {
        Twins.Town t = Twins::busy;
        Twins.range(c, "years", t, Twins.of(8, 25), Twins.of(-4, -6), (x, v) -> x.guess(0, v), v -> 3);
        c.due("child 0", Twins.busy().guess(0, 9), 3);
        c.due("child 1", Twins.busy().guess(1, 9), 2);
        c.due("child 2", Twins.busy().guess(2, 9), 1);
        Twins.refuses(c, "child -1", t, -1, x -> x.guess(-1, 9));
        Twins.refuses(c, "child 3, not told", t, -5, x -> x.guess(3, 9));
        Twins.refuses(c, "child 7, not told", t, -5, x -> x.guess(7, 9));
        Twins.refuses(c, "child 8", t, -1, x -> x.guess(8, 9));
    }

    private static void guessOrder(Check c) {
        Twins.Town t = Twins::busy;
        Twins.refuses(c, "no child, below", t, -1, x -> x.guess(-1, 7));
        Twins.refuses(c, "no child, above", t, -1, x -> x.guess(8, 26));
        Twins.refuses(c, "not told, below", t, -5, x -> x.guess(3, 7));
        Twins.refuses(c, "not told, above", t, -5, x -> x.guess(7, 26));
        Twins.refuses(c, "full, below", () -> guessed(12), -4, x -> x.guess(0, 7));
        Twins.refuses(c, "full, above", () -> guessed(12), -6, x -> x.guess(0, 26));
    }

    /** "12 at most a CHILD"; "-6 (12, too)". */
    private static void twelveGuesses(Check c) {
        c.due("an 11th", guessed(10).guess(0, 9), 11);
        c.due("a 12th", guessed(11).guess(0, 9), 12);
        Twins.refuses(c, "a 13th", () -> guessed(12), -6, x -> x.guess(0, 9));
        YoungBuyers x = guessed(12);
        x.child(1, -5000);
        c.due("of another child", x.guess(1, 9), 1);
        x.child(0, -5000);
        c.due("told again", x.guess(0, 9), 1);
    }

    /** "The middle one of them in order (of an even number the greater of the two); without any: its AGE." */
    private static void looks(Check c) {
        c.due("no guess", guessed(0).childOf(0, 1), 13);
        int[] due = {13, 10, 11, 11, 12, 12, 13, 13, 14, 14, 15, 15, 16};
        for (int n = 1; n <= 12; n++) {
            c.due(n + " guesses upwards", guessed(n).childOf(0, 1), due[n]);
        }
        YoungBuyers x = born(-5000);
        int[] down = {25, 25, 24, 24, 23, 23, 22, 22, 21, 21, 20, 20};
        for (int n = 1; n <= 12; n++) {
            x.guess(0, 26 - n);
            c.due(n + " guesses downwards", x.childOf(0, 1), down[n - 1]);
        }
        YoungBuyers same = born(-5000);
        same.guess(0, 8);
        same.guess(0, 8);
        same.guess(0, 25);
        c.due("two alike and a greater", same.childOf(0, 1), 8);
        same.guess(0, 25);
        c.due("two alike and two greater", same.childOf(0, 1), 25);
    }

    /** "AGE (what 0), LOOKS (1) of a CHILD now. -1; -5; -2." */
    private static void childOfArguments(Check c) {
        Twins.Town t = Twins::busy;
        Twins.range(c, "what", t, Twins.of(0, 1), Twins.of(-2, -2), (x, v) -> x.childOf(1, v), v -> v == 0 ? 12 : 19);
        Twins.refuses(c, "child -1", t, -1, x -> x.childOf(-1, 0));
        Twins.refuses(c, "child 8", t, -1, x -> x.childOf(8, 0));
        Twins.refuses(c, "child 3, not told", t, -5, x -> x.childOf(3, 0));
        Twins.refuses(c, "child 7, not told", t, -5, x -> x.childOf(7, 1));
        Twins.refuses(c, "no child, another what", t, -1, x -> x.childOf(8, 2));
        Twins.refuses(c, "not told, another what", t, -5, x -> x.childOf(7, -1));
        c.due("child 2", Twins.busy().childOf(2, 0), 16);
    }

    /** "-1; -5." */
    private static void knownArguments(Check c) {
        Twins.Town t = Twins::busy;
        Twins.range(c, "shop", t, Twins.of(0, 6), Twins.of(-1, -1), (x, v) -> x.known(1, v, true), v -> 1);
        Twins.refuses(c, "child -1", t, -1, x -> x.known(-1, 0, true));
        Twins.refuses(c, "child 8", t, -1, x -> x.known(8, 0, true));
        Twins.refuses(c, "child 3, not told", t, -5, x -> x.known(3, 0, true));
        Twins.refuses(c, "child 7, not told", t, -5, x -> x.known(7, 0, false));
        Twins.refuses(c, "not told, no shop", t, -1, x -> x.known(7, 7, true));
        Twins.refuses(c, "not told, no shop", t, -1, x -> x.known(7, -1, true));
        YoungBuyers x = guessed(0);
        for (int i = 0; i < 40; i++) {
            x.shop(0, 0, 0, 0);
        }
        c.due("known in the last shop", x.known(0, 39, true), 1);
        c.due("not in the one ahead", x.known(0, 38, false), 0);
        x.child(1, -5000);
        c.due("nor another child in the first", x.known(1, 0, false), 0);
    }

    /** "A CHILD is KNOWN in a SHOP, or not: 1; 0 if it was so." */
    private static void knownOrNot(Check c) {
        Twins.leaves(c, "known as it was", Twins::busy, 0, x -> x.known(0, 1, true));
        Twins.leaves(c, "not known as it was", Twins::busy, 0, x -> x.known(0, 0, false));
        c.due("known", Twins.busy().known(0, 0, true), 1);
        c.due("not known", Twins.busy().known(0, 1, false), 1);
        c.due("in a shut shop", Twins.busy().known(0, 5, true), 1);
    }
}
