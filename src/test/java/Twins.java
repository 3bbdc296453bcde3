import java.util.ArrayList;
import java.util.List;
import java.util.Objects;
import java.util.TreeMap;
import java.util.TreeSet;

/**
 * Two objects with the same calls behind them; one of them is called once more. What both answer then to
 * all that can be asked shows whether that call changed something.
 *
 * <p>Asking takes many calls, and an object is good for 512: so each part of the asking has twins of its own.
 */
final class Twins {
    interface Call {
        long on(YoungBuyers x);
    }

    interface Town {
        YoungBuyers make();
    }

    interface CallWith {
        long on(YoungBuyers x, int value);
    }

    interface Due {
        long with(int value);
    }

    static final long STATE_EXCEPTION = Long.MIN_VALUE;
    static final long ARGUMENT_EXCEPTION = Long.MIN_VALUE + 1;
    private static final String LETTERS = "abcdghkmnopsy";
    private static final int PARTS = 8;
    private static final String[] WORDS = {"now", "shops", "tests", "work", "town", "people", "rest", "anew"};
    private static final int FIRST_REFUSAL = 11;
    private static final int LAST_REFUSAL = 16;

    private final List<String> calls = new ArrayList<>();
    private final List<Long> answers = new ArrayList<>();
    private final YoungBuyers x;

    private Twins(YoungBuyers x) {
        this.x = x;
    }

    /** The call answers the number; nothing changes but how many such REFUSALS there were. */
    static void refuses(Check c, String name, Town town, int number, Call call) {
        YoungBuyers x = town.make();
        YoungBuyers twin = town.make();
        c.due(name, call.on(x), number);
        for (int what = FIRST_REFUSAL; what <= LAST_REFUSAL; what++) {
            int more = what == 10 - number ? 1 : 0;
            c.due(name + ": count(" + what + ") behind it", x.count(what), twin.count(what) + more);
        }
        c.due(name + ": changed", firstChange(town, call), "");
    }

    /** The call answers so, and changes nothing at all, not even how many REFUSALS there were. */
    static void leaves(Check c, String name, Town town, long answer, Call call) {
        YoungBuyers x = town.make();
        YoungBuyers twin = town.make();
        c.due(name, call.on(x), answer);
        for (int what = FIRST_REFUSAL; what <= LAST_REFUSAL; what++) {
            c.due(name + ": count(" + what + ") behind it", x.count(what), twin.count(what));
        }
        c.due(name + ": changed", firstChange(town, call), "");
    }

    /** The call is told apart from no call: the asking is sharp enough to see what it does. */
    static void changes(Check c, String name, Town town, Call call) {
        c.isTrue(name + " is seen", !firstChange(town, call).isEmpty());
    }

    /**
     * A number from least to greatest: at both ends, one step on either side of each, and far off. Beside
     * them the call is refused by the numbers told, within them it answers what is due.
     */
    static void range(Check c, String name, Town town, int[] ends, int[] refusals, CallWith call, Due due) {
        int least = ends[0];
        int greatest = ends[1];
        int[] values = {Integer.MIN_VALUE, least - 1, least, least + 1, greatest - 1, greatest, greatest + 1,
            Integer.MAX_VALUE};
        for (int value : values) {
            String told = name + " with " + value;
            if (value < least || value > greatest) {
                refuses(c, told, town, refusals[value < least ? 0 : 1], x -> call.on(x, value));
            } else {
                c.due(told, call.on(town.make(), value), due.with(value));
            }
        }
    }

    static int[] of(int first, int second) {
        return new int[] {first, second};
    }

    /** What is answered otherwise behind the call; an empty text if nothing is. */
    private static String firstChange(Town town, Call call) {
        for (int part = 0; part < PARTS; part++) {
            YoungBuyers x = town.make();
            call.on(x);
            Twins one = new Twins(x);
            Twins other = new Twins(town.make());
            one.ask(part);
            other.ask(part);
            for (int i = 0; i < one.calls.size(); i++) {
                String told = one.calls.get(i) + " " + one.answers.get(i);
                String twin = i < other.calls.size() ? other.calls.get(i) + " " + other.answers.get(i) : "none";
                if (!told.equals(twin)) {
                    return told + " for " + twin;
                }
            }
        }
        return "";
    }

    /** All that is answered otherwise behind the call: the part of the asking by its word, and what is asked. */
    static TreeSet<String> changed(Town town, Call call) {
        TreeSet<String> found = new TreeSet<>();
        for (int part = 0; part < PARTS; part++) {
            YoungBuyers x = town.make();
            call.on(x);
            TreeMap<String, List<Long>> one = byName(x, part);
            TreeMap<String, List<Long>> other = byName(town.make(), part);
            TreeSet<String> names = new TreeSet<>(one.keySet());
            names.addAll(other.keySet());
            for (String name : names) {
                if (!Objects.equals(one.get(name), other.get(name))) {
                    found.add(WORDS[part] + ": " + name);
                }
            }
        }
        return found;
    }

    private static TreeMap<String, List<Long>> byName(YoungBuyers x, int part) {
        Twins asked = new Twins(x);
        asked.ask(part);
        TreeMap<String, List<Long>> found = new TreeMap<>();
        for (int i = 0; i < asked.calls.size(); i++) {
            found.computeIfAbsent(asked.calls.get(i), name -> new ArrayList<>()).add(asked.answers.get(i));
        }
        return found;
    }

    private void ask(int part) {
        switch (part) {
            case 0 -> askNumbers();
            case 1 -> askShops();
            case 2 -> askTests();
            case 3 -> askWork();
            case 4 -> tellShops();
            case 5 -> tellChildren();
            case 6 -> tellTheRest();
            default -> drawAnew();
        }
    }

    private void put(String call, long answer) {
        calls.add(call);
        answers.add(answer);
    }

    private void askNumbers() {
        for (int what = -1; what <= 18; what++) {
            if (what < FIRST_REFUSAL || what > LAST_REFUSAL) {
                put("count " + what, x.count(what));
            }
        }
        for (int what = 0; what < 4; what++) {
            put("back " + what, back(x, what));
        }
        for (int what = 0; what < 7; what++) {
            put("helped " + what, x.helped(0, what));
            put("helped from 5 on " + what, x.helped(5, what));
            for (int a = 0; a < 4; a++) {
                put("wards of " + a, x.wards(a, (a + 1) % 4, 0, what));
            }
        }
        for (int use = 0; use < 5; use++) {
            for (int day = 0; day < 12; day++) {
                put("force of " + use, x.force(use, day));
            }
            put("force of " + use + " at the end", x.force(use, 2000));
        }
        for (int clerk = 0; clerk < 10; clerk++) {
            put("tally of " + clerk, x.tally(clerk, 0));
            put("sold of " + clerk, x.tally(clerk, 1));
        }
        put("lost", x.lost());
        put("worst", x.worst());
        for (int budget = 0; budget < 200; budget += 9) {
            put("most for " + budget, x.most(budget));
        }
    }

    private void askShops() {
        int now = x.count(0);
        for (int shop = 0; shop < x.count(1); shop++) {
            for (int what = 0; what < 3; what++) {
                put("drawn " + shop, x.drawn(shop, what));
            }
            put("letter " + shop, x.letter(shop));
            for (int day = 0; day <= now && day < 10; day += 3) {
                put("step " + shop, x.step(shop, day, now));
            }
            put("step " + shop, x.step(shop, now, now));
        }
    }

    private void askTests() {
        int now = x.count(0);
        int tests = x.count(5);
        // Of a hundred every seventh: all of them would take too many calls.
        for (int test = 0; test < tests; test += 1 + tests / 16) {
            for (int k = Math.max(0, now - 5); k <= now; k += 5) {
                for (int what = 0; what < 3; what++) {
                    put("testOf " + test, x.testOf(test, k, what));
                }
            }
            for (int i = 0; i < LETTERS.length(); i++) {
                put("fact " + LETTERS.charAt(i) + " of " + test, x.fact(test, now, LETTERS.charAt(i)));
            }
        }
        put("no more tests", x.testOf(tests, now, 0));
    }

    private void askWork() {
        for (int c = 0; c < 4; c++) {
            for (int e = 0; e < 4; e++) {
                put("longer of " + c + " and " + e, x.work(c, e, 0));
                put("shorter of " + c + " and " + e, x.work(c, e, 1));
                for (int i = 0; i < 10; i++) {
                    put("stop of " + c + " and " + e, x.workAt(c, e, i > 4, i % 5));
                }
            }
        }
    }

    /** What something was is told when it becomes something else. */
    private void tellShops() {
        int shops = x.count(1);
        for (int shop = 0; shop < shops; shop++) {
            put("weight of " + shop, x.weight(shop, 1));
            put("open " + shop, x.open(shop, true));
            put("owners of " + shop, x.sell(shop));
            for (int child = 0; child < 8; child++) {
                put("known " + child + " in " + shop, x.known(child, shop, false));
            }
        }
        put("another shop", x.shop(0, 0, 0, 0));
    }

    private void tellChildren() {
        for (int child = 0; child < 8; child++) {
            put("age of " + child, x.childOf(child, 0));
            put("looks of " + child, x.childOf(child, 1));
            // The middle one moves through all of them as greater ones come.
            for (int i = 0; i < 12; i++) {
                put("a guess of " + child, x.guess(child, 25));
                put("looks of " + child, x.childOf(child, 1));
            }
            put("child " + child, x.child(child, -4000));
        }
        put("a day", x.days(1));
    }

    private void tellTheRest() {
        int now = x.count(0);
        for (int kind = 0; kind < 5; kind++) {
            put("cost of " + kind, x.cost(kind, 0));
        }
        put("leave", x.leave(0));
        put("another shift", x.clerk(7, 0, 0, 24, now));
        int tests = x.count(5);
        put("the tape as a rule", x.rule(0, now));
        for (int test = 0; test < tests; test++) {
            put("good by the tape", x.testOf(test, now, 1));
        }
        put("the tape anew", x.feed(1, 's'));
        put("another rule", x.rule(1, now));
        put("another test", x.test(0, 0, 0, now, 9, 4));
        for (int test = 0; test <= tests; test++) {
            put("void it", x.appeal(test));
        }
    }

    private void drawAnew() {
        for (int n = 1; n < 12; n++) {
            put("draw of " + n, x.draw(n, 77 * n));
            for (int shop = 0; shop < x.count(1) && shop < 8; shop++) {
                put("drawn " + shop, x.drawn(shop, 0));
                put("above " + shop, x.drawn(shop, 1));
                put("below " + shop, x.drawn(shop, 2));
            }
        }
        put("letters", x.letters(99));
        for (int shop = 0; shop < x.count(1); shop++) {
            put("letter " + shop, x.letter(shop));
        }
    }

    /** What back answers, or which exception it throws. */
    static long back(YoungBuyers x, int what) {
        try {
            return x.back(what);
        } catch (IllegalStateException e) {
            return STATE_EXCEPTION;
        } catch (IllegalArgumentException e) {
            return ARGUMENT_EXCEPTION;
        }
    }

    /**
     * DAY 9. Seven SHOPS, 0 to 5 told on DAY 0 and 6 on DAY 3; 5 is SHUT, 2 was sold on DAY 3. CHILDREN 0 to 2
     * are told, 3 to 7 are not. Six RULES, ten TESTS (3 is VOIDED), a DRAW of 4 with LETTERS, three
     * shifts of CLERKS, and "h>9" on THE TAPE.
     */
    static YoungBuyers busy() {
        YoungBuyers x = new YoungBuyers();
        for (int i = 0; i < 6; i++) {
            x.shop(i % 5, i % 4, 7 * i, 30 - 5 * i);
            x.weight(i, 2 + i);
        }
        tellPeople(x);
        tellRules(x);
        x.cost(1, 35);
        x.leave(400);
        x.days(3);
        x.shop(3, 2, 5, 5);
        x.sell(2);
        x.clerk(1, 0, 8, 12, 3);
        x.clerk(2, 1, 10, 14, 5);
        x.clerk(9, 6, 0, 24, 3);
        x.draw(4, 321);
        x.letters(77);
        x.days(4);
        tellTests(x);
        x.days(2);
        x.appeal(3);
        x.open(5, false);
        Check.feed(x, "h>9");
        return x;
    }

    private static void tellPeople(YoungBuyers x) {
        x.child(0, -5000);
        x.child(1, -4500);
        x.child(2, -6000);
        x.guess(0, 16);
        x.guess(0, 14);
        x.guess(1, 19);
        x.known(0, 1, true);
        x.known(2, 3, true);
    }

    private static void tellRules(YoungBuyers x) {
        Check.rule(x, "h<20", 0, 0);
        Check.rule(x, "p|s", 1, 0);
        Check.rule(x, "o>0", 2, 0);
        Check.rule(x, "m<9", 3, 2);
        Check.rule(x, "1", 4, 2);
        Check.rule(x, "h<22", 0, 8);
    }

    private static void tellTests(YoungBuyers x) {
        x.test(0, 0, 0, 3, 9, 4);
        x.test(0, 1, 1, 3, 10, 4);
        x.test(0, 2, 2, 4, 11, 5);
        x.test(1, 1, 3, 4, 12, 0);
        x.test(6, 0, 0, 5, 20, 4);
        x.test(6, 1, 0, 5, 13, 2);
        x.test(0, 1, 1, 5, 8, 6);
        x.test(2, 2, 2, 6, 14, 7);
        x.test(2, 1, 3, 7, 15, 4);
        x.test(4, 0, 0, 7, 16, 1);
    }
}
