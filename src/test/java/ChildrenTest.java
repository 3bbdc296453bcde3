/** Promises 7 to 10: child, guess, childOf, known. */
public final class ChildrenTest {
    public static void main(String[] args) {
        Check c = new Check();
        child(c);
        guess(c);
        childOf(c);
        known(c);
        c.end();
    }

    private static void child(Check c) {
        YoungBuyers x = new YoungBuyers();
        c.due("child -1", x.child(-1, 0), -1);
        c.due("child 8", x.child(8, -8000), -1);
        c.due("born too early", x.child(0, -7001), -4);
        c.due("born too late", x.child(0, -2999), -6);
        c.due("count(3)", x.count(3), 0);
        c.due("born -7000", x.child(0, -7000), 1);
        c.due("born -3000", x.child(7, -3000), 1);
        c.due("again", x.child(0, -3000), 0);
        c.due("age anew", x.childOf(0, 0), 8);
        c.due("count(3)", x.count(3), 2);
        x.shop(0, 0, 0, 0);
        x.guess(0, 20);
        x.known(0, 0, true);
        c.due("refused again", x.child(0, -7001), -4);
        c.due("a refusal leaves guesses", x.childOf(0, 1), 20);
        c.due("again, without guesses", x.child(0, -3000), 0);
        c.due("looks as its age", x.childOf(0, 1), 8);
        c.due("nowhere known", x.known(0, 0, false), 0);
        c.due("guesses from one on", x.guess(0, 25), 1);
    }

    private static void guess(Check c) {
        YoungBuyers x = new YoungBuyers();
        c.due("child 8", x.guess(8, 0), -1);
        c.due("not told", x.guess(0, 0), -5);
        x.child(0, -5000);
        c.due("7 years", x.guess(0, 7), -4);
        c.due("26 years", x.guess(0, 26), -6);
        int[] years = {25, 8, 17, 8, 25, 9, 24, 10, 23, 11, 22, 12};
        int[] middle = {25, 25, 17, 17, 17, 17, 17, 17, 17, 17, 17, 17};
        for (int i = 0; i < 12; i++) {
            c.due("guess " + i, x.guess(0, years[i]), i + 1);
            c.due("looks with " + (i + 1), x.childOf(0, 1), middle[i]);
        }
        c.due("a 13th", x.guess(0, 12), -6);
        c.due("a 13th of 7 years", x.guess(0, 7), -4);
        x.child(1, -5000);
        x.guess(1, 10);
        c.due("two guesses", x.guess(1, 12), 2);
        c.due("the greater of the two in the middle", x.childOf(1, 1), 12);
    }

    private static void childOf(Check c) {
        YoungBuyers x = new YoungBuyers();
        c.due("child -1", x.childOf(-1, 5), -1);
        c.due("not told", x.childOf(3, 5), -5);
        x.child(3, -5109);
        c.due("what 2", x.childOf(3, 2), -2);
        c.due("what -1", x.childOf(3, -1), -2);
        c.due("13 years", x.childOf(3, 0), 13);
        c.due("looks as its age", x.childOf(3, 1), 13);
        x.days(1);
        c.due("14 years", x.childOf(3, 0), 14);
        c.due("looks as its age", x.childOf(3, 1), 14);
    }

    private static void known(Check c) {
        YoungBuyers x = new YoungBuyers();
        c.due("no shop", x.known(0, 0, true), -1);
        x.shop(0, 0, 0, 0);
        x.shop(0, 0, 0, 0);
        c.due("not told", x.known(0, 0, true), -5);
        c.due("no child", x.known(8, 0, true), -1);
        x.child(0, -5000);
        x.child(1, -5000);
        c.due("no shop", x.known(0, 2, true), -1);
        c.due("not known already", x.known(0, 1, false), 0);
        c.due("known", x.known(0, 1, true), 1);
        c.due("known already", x.known(0, 1, true), 0);
        c.due("not in another shop", x.known(0, 0, false), 0);
        c.due("not another child", x.known(1, 1, false), 0);
        c.due("not known any more", x.known(0, 1, false), 1);
    }
}
