/** The asking of Twins is sharp: each call that tells something is seen, in the busy town, and each REFUSAL. */
public final class TwinsTest {
    public static void main(String[] args) {
        Check c = new Check();
        tellings(c);
        questions(c);
        c.end();
    }

    private static void tellings(Check c) {
        seen(c, "days", x -> x.days(1));
        seen(c, "shop", x -> x.shop(0, 0, 0, 0));
        seen(c, "weight", x -> x.weight(3, 6));
        seen(c, "open", x -> x.open(5, true));
        seen(c, "shut", x -> x.open(6, false));
        seen(c, "sell", x -> x.sell(4));
        seen(c, "child", x -> x.child(7, -3000));
        seen(c, "child again", x -> x.child(1, -4500));
        seen(c, "child again, nowhere known", x -> x.child(2, -6000));
        seen(c, "guess", x -> x.guess(2, 16));
        seen(c, "a guess above the middle", x -> x.guess(0, 20));
        seen(c, "known", x -> x.known(2, 0, true));
        seen(c, "not known", x -> x.known(2, 3, false));
        seen(c, "draw", x -> x.draw(4, 322 + 250));
        seen(c, "feed", x -> x.feed(1, '9'));
        seen(c, "rule", x -> x.rule(4, 9));
        seen(c, "test", x -> x.test(3, 1, 0, 9, 0, 0));
        seen(c, "appeal", x -> x.appeal(5));
        seen(c, "leave", x -> x.leave(401));
        seen(c, "letters", x -> x.letters(3));
        seen(c, "clerk", x -> x.clerk(5, 5, 0, 1, 2000));
        seen(c, "cost", x -> x.cost(4, 21));
        seen(c, "a fault takes the tape", x -> x.feed(1, 'x') + x.rule(0, 9));
    }

    private static void seen(Check c, String name, Twins.Call call) {
        Twins.changes(c, name, Twins::busy, call);
    }

    /** Questions change nothing. */
    private static void questions(Check c) {
        still(c, "childOf", 13, x -> x.childOf(0, 0));
        still(c, "drawn", 0, x -> x.drawn(0, 0));
        still(c, "back", Twins.ARGUMENT_EXCEPTION, x -> Twins.back(x, 4));
        still(c, "force", 1, x -> x.force(1, 9));
        still(c, "testOf", 0, x -> x.testOf(3, 9, 0));
        still(c, "fact", 8, x -> x.fact(6, 9, 'h'));
        still(c, "step", 4, x -> x.step(0, 9, 9));
        still(c, "lost", 1, x -> x.lost());
        still(c, "letter", 0, x -> x.letter(0));
        still(c, "count", -9, x -> x.count(18));
        still(c, "tally", 4, x -> x.tally(1, 0));
        still(c, "worst", 1, x -> x.worst());
        still(c, "most", 1, x -> x.most(39));
        still(c, "helped", 1, x -> x.helped(2000, 0));
        still(c, "wards", 1, x -> x.wards(0, 3, 2000, 1));
        still(c, "work", -9, x -> x.workAt(0, 1, true, 9));
        still(c, "open as it was", 0, x -> x.open(5, false));
        still(c, "known as it was", 0, x -> x.known(2, 3, true));
        still(c, "weight as it was", 2, x -> x.weight(0, 2));
        still(c, "cost as it was", 35, x -> x.cost(1, 35));
    }

    private static void still(Check c, String name, long answer, Twins.Call call) {
        Twins.leaves(c, name, Twins::busy, answer, call);
    }
}
