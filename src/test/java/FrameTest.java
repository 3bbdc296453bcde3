import java.util.List;
import java.util.TreeSet;

/**
 * Each call that tells something changes what its promise says, and nothing beside it: of all that can be asked
 * behind the call, only what is named here is answered otherwise.
 */
public final class FrameTest {
    public static void main(String[] args) {
        Check c = new Check();
        days(c);
        shops(c);
        owners(c);
        people(c);
        draws(c);
        rules(c);
        tests(c);
        clerksAndCosts(c);
        thereAndBack(c);
        c.end();
    }

    /**
     * DAY 9. Four SHOPS with WEIGHTS 5, 2, 3 and 4 in four WARDS, all OPEN; 0, 2 and 3 were drawn, 0 has the LETTER.
     * In SHOP 0 CHILD 0 is KNOWN, a CLERK stands, and two good TESTS SOLD, so that its OWNER is on STEP 2; CHILD 1
     * is KNOWN in SHOP 2 and CHILD 2 in SHOP 1. TEST 4 was VOIDED on DAY 6. "h>9" is on THE TAPE.
     */
    private static YoungBuyers town() {
        YoungBuyers x = new YoungBuyers();
        int[] weights = {5, 2, 3, 4};
        for (int i = 0; i < 4; i++) {
            x.shop(i, i, 10 * i, 30 - 10 * i);
            x.weight(i, weights[i]);
            x.cost(i, 30 + i);
        }
        for (int i = 0; i < 3; i++) {
            x.child(i, -5000 - i);
            x.guess(i, 15 + i);
        }
        x.known(0, 0, true);
        x.known(1, 2, true);
        x.known(2, 1, true);
        Check.rule(x, "h<20", 0, 0);
        Check.rule(x, "1", 1, 0);
        Check.rule(x, "o>0", 2, 0);
        x.clerk(1, 0, 0, 24, 0);
        x.clerk(2, 2, 0, 24, 0);
        x.leave(400);
        x.draw(3, 700);
        x.letters(600);
        x.days(3);
        x.test(0, 1, 0, 1, 9, 4);
        x.test(0, 2, 1, 2, 10, 4);
        x.test(1, 0, 2, 2, 11, 0);
        x.test(2, 0, 3, 3, 12, 4);
        x.test(3, 0, 0, 3, 13, 4);
        x.test(3, 1, 0, 3, 21, 2);
        x.days(3);
        x.appeal(4);
        x.days(3);
        Check.feed(x, "h>9");
        return x;
    }

    /** What is answered otherwise is all named by the pattern, and there is something. */
    private static void only(Check c, String name, Twins.Call call, String pattern) {
        TreeSet<String> found = Twins.changed(FrameTest::town, call);
        c.isTrue(name + " changes something", !found.isEmpty());
        found.removeIf(one -> one.matches(pattern));
        c.due(name + " changes beside it", found.toString(), "[]");
    }

    /** These are all answered otherwise behind the call, and nothing else is. */
    private static void just(Check c, String name, Twins.Call call, String... due) {
        TreeSet<String> all = new TreeSet<>(List.of(due));
        c.due(name + " changes", Twins.changed(FrameTest::town, call).toString(), all.toString());
    }

    private static void days(Check c) {
        YoungBuyers x = town();
        int[] drawn = {1, 0, 1, 1};
        int[] letters = {1, 0, 0, 0};
        for (int i = 0; i < 4; i++) {
            c.due("drawn " + i, x.drawn(i, 0), drawn[i]);
            c.due("letter " + i, x.letter(i), letters[i]);
            c.due("step of " + i, x.step(i, 9, 9), i == 0 ? 2 : i == 2 ? 1 : 0);
        }
        just(c, "a day", y -> y.days(1), "now: count 0", "people: a day");
    }

    private static void shops(Check c) {
        only(c, "a shop", x -> x.shop(0, 1, 7, 7),
                "now: (count [12]|most for .*)|(shops|town): .*\\b4|town: another shop|anew: .*");
        only(c, "a weight", x -> x.weight(0, 20), "now: most for .*|town: weight of 0|anew: .*");
        only(c, "shut", x -> x.open(0, false),
                "now: (count 2|most for .*)|work: .*|town: open 0|rest: (another test|void it)|anew: .*");
    }

    private static void owners(Check c) {
        just(c, "a sale", x -> x.sell(0), "shops: step 0", "town: owners of 0");
        just(c, "a sale", x -> x.sell(2), "shops: step 2", "town: owners of 2");
        just(c, "a sale", x -> x.sell(3), "town: owners of 3");
        just(c, "a sale of a shut shop", x -> {
            x.open(0, false);
            x.sell(0);
            return x.open(0, true);
        }, "shops: step 0", "town: owners of 0");
    }

    private static void people(Check c) {
        only(c, "a child", x -> x.child(5, -4000), "now: count 3|town: known 5 in .*|people: .* 5");
        only(c, "a child again", x -> x.child(1, -3000),
                "tests: fact [abn] of [05]|work: .* 1.*|town: known 1 in 2|people: .* 1");
        only(c, "a guess", x -> x.guess(0, 25), "tests: fact b of [23]|people: (looks|a guess) of 0");
        only(c, "known", x -> x.known(1, 0, true), "tests: fact n of 0|work: .* 1.*|town: known 1 in 0");
        only(c, "not known", x -> x.known(0, 0, false), "work: .* 0.*|town: known 0 in 0");
    }

    private static void draws(Check c) {
        only(c, "a draw", x -> x.draw(2, 1),
                "now: (back .|count 9|count 10|helped .*)|shops: (drawn|letter) .|work: .*");
        only(c, "letters", x -> x.letters(3), "now: helped .*|shops: letter .");
        only(c, "leave", x -> x.leave(60), "work: .*|rest: leave");
    }

    private static void rules(Check c) {
        only(c, "bytes", x -> x.feed(1, '9'), "now: count 17|rest: (the tape as a rule|good by the tape)");
        only(c, "a rule for tests", x -> x.rule(0, 9),
                "now: (count 4|count 17|force of 0.*)|rest: (the tape as a rule|another rule)");
        only(c, "a rule for a step", x -> x.rule(3, 9),
                "now: (count 4|count 17|force of 3.*)|rest: (the tape as a rule|another rule)");
        only(c, "a fault", x -> x.feed(1, 'x') + x.rule(0, 9),
                "now: count 17|rest: (the tape as a rule|another rule)");
    }

    private static void tests(Check c) {
        only(c, "a test", x -> x.test(1, 1, 3, 9, 9, 4),
                "now: (count [578]|wards of [01])|shops: step 1|tests: .* 6|work: .* 1.*|rest: .*");
        only(c, "a test that is not good", x -> x.test(0, 1, 0, 9, 20, 4),
                "now: count 5|tests: .* 6|work: .* 1.*|rest: .*");
        only(c, "an appeal", x -> x.appeal(0), "now: (count [678]|tally of 1|sold of 1|worst)|shops: step 0"
                + "|tests: (.* 0|fact [dmopy] of 1|testOf 1)|work: .* 1.*|rest: (void it|good by the tape)");
    }

    private static void clerksAndCosts(Check c) {
        just(c, "a shift from now on", x -> x.clerk(5, 0, 0, 24, 9), "rest: another shift");
        only(c, "a cost", x -> x.cost(0, 500), "now: most for .*|rest: cost of 0");
    }

    /** What is told and then told as it was leaves no trace. */
    private static void thereAndBack(Check c) {
        Twins.leaves(c, "shut and open", FrameTest::town, 1, x -> x.open(0, false) * x.open(0, true));
        Twins.leaves(c, "known no more, and again", FrameTest::town, 1,
                x -> x.known(0, 0, false) * x.known(0, 0, true));
        Twins.leaves(c, "a weight", FrameTest::town, 20, x -> x.weight(0, 20) + x.weight(0, 5) - 5);
        Twins.leaves(c, "a cost", FrameTest::town, 500, x -> x.cost(2, 500) + x.cost(2, 32) - 32);
        Twins.leaves(c, "a leave", FrameTest::town, 0, x -> x.leave(0) + x.leave(400) - 400);
        Twins.leaves(c, "the same draw and letters", FrameTest::town, 4, x -> x.draw(3, 700) + x.letters(600));
    }
}
