import java.util.Random;

/** Long runs of calls by fixed seeds; every answer is held against PlainModel. */
public final class ModelTest {
    private static final int RUNS = 400;
    /** A rule takes eleven feeds at most and its own call. */
    private static final int CALLS = 512 - 12;
    private static final String LETTERS = "abcdghkmnopsy";
    /** Rules by which an owner soon goes up. */
    private static final String[] EASY = {"1", "s", "o>0", "p>0|y>0", "m>0|o>1", "d<9", "!c|g", "h>5&(a<b|a=b)"};
    private static final String SIGNS = "abcdghkmnopsy0123456789+-<=>&|!()ez ";

    private final Random random;
    private final Check check;
    private final YoungBuyers x = new YoungBuyers();
    private final PlainModel y = new PlainModel();
    private final String run;
    private final boolean wild;
    private final boolean climbing;
    private String told = "";
    private int calls = 0;
    private int day = 0;
    private int shops = 0;
    private int tests = 0;
    private int testDay = 0;

    private ModelTest(int seed, Check check) {
        random = new Random(seed);
        this.check = check;
        run = "run " + seed + ": ";
        wild = seed % 4 == 3;
        climbing = seed % 2 == 0;
    }

    public static void main(String[] args) {
        Check check = new Check();
        for (int seed = 0; seed < RUNS && !check.failed(); seed++) {
            new ModelTest(seed, check).go();
        }
        texts(check);
        works(check);
        check.end();
    }

    /** Faults of many texts, whole ones with one sign changed among them. */
    private static void texts(Check check) {
        ModelTest maker = new ModelTest(-1, check);
        for (int i = 0; i < 20000 && !check.failed(); i++) {
            StringBuilder text = new StringBuilder(maker.ruleText(maker.random.nextInt(5)));
            if (text.length() > 0 && i % 4 > 0) {
                int at = maker.random.nextInt(text.length());
                char sign = SIGNS.charAt(maker.random.nextInt(SIGNS.length()));
                switch (i % 4) {
                    case 1 -> text.setCharAt(at, sign);
                    case 2 -> text.insert(at, sign);
                    default -> text.deleteCharAt(at);
                }
            }
            if (text.length() > 80) {
                text.setLength(80);
            }
            int fault = PlainModel.faultOf(text.toString());
            int due = fault < 0 ? 0 : -20 - fault;
            check.due("rule of " + text, Check.rule(new YoungBuyers(), text.toString(), 0, 0), due);
        }
    }

    /** Two teams among many SHOPS that lie close together, so that many ways are as short. */
    private static void works(Check check) {
        for (int seed = 1000; seed < 1100 && !check.failed(); seed++) {
            ModelTest m = new ModelTest(seed, check);
            int wide = 1 + m.random.nextInt(seed % 3 == 0 ? 60 : 5);
            int number = 1 + m.random.nextInt(10);
            for (int i = 0; i < number; i++) {
                int a = m.random.nextInt(wide + 1);
                int b = m.random.nextInt(wide + 1);
                m.due("shop(0, 0, " + a + ", " + b + ")", m.x.shop(0, 0, a, b), m.y.shop(0, 0, a, b));
            }
            for (int c = 0; c < 2; c++) {
                m.due("child", m.x.child(c, -5000), m.y.child(c, -5000));
                for (int i = 0; i < number; i++) {
                    boolean on = m.random.nextInt(6) == 0;
                    m.due("known(" + c + ", " + i + ", " + on + ")", m.x.known(c, i, on), m.y.known(c, i, on));
                }
            }
            m.due("draw(40, 0)", m.x.draw(40, 0), m.y.draw(40, 0));
            for (int what = 0; what < 2; what++) {
                m.due("work(0, 1, " + what + ")", m.x.work(0, 1, what), m.y.work(0, 1, what));
            }
            for (int i = 0; i < 16; i++) {
                m.due("workAt(0, 1, " + (i > 7) + ", " + i % 8 + ")", m.x.workAt(0, 1, i > 7, i % 8),
                        m.y.workAt(0, 1, i > 7, i % 8));
            }
        }
    }

    private void go() {
        int setup = 3 + random.nextInt(12);
        for (int i = 0; i < setup; i++) {
            shop();
        }
        for (int i = 0; i < 8; i++) {
            if (climbing || random.nextInt(3) > 0) {
                child(i);
            }
        }
        for (int use = 1; climbing && use <= 4; use++) {
            rule(EASY[random.nextInt(EASY.length)], use, 0);
        }
        while (calls < CALLS && !check.failed()) {
            one();
        }
        if (check.failed()) {
            System.out.println(told);
        }
    }

    private void due(String call, long got, long want) {
        calls++;
        told += call + " -> " + got + "\n";
        check.due(run + call, got, want);
    }

    /** Mostly within least .. greatest; now and then beside it, or far off. */
    private int near(int least, int greatest) {
        int chance = random.nextInt(wild ? 20 : 100);
        if (chance == 0) {
            return greatest + 1;
        }
        if (chance == 1) {
            return least - 1;
        }
        if (chance == 2) {
            int[] far = {Integer.MIN_VALUE, Integer.MAX_VALUE, -1000000, 1000000, 0};
            return far[random.nextInt(far.length)];
        }
        return chance < 8 ? (chance % 2 == 0 ? least : greatest) : least + random.nextInt(greatest - least + 1);
    }

    /** In climbing runs few shops are tested again and again. */
    private int aShop() {
        if (climbing && random.nextInt(4) > 0) {
            return near(0, 2);
        }
        return near(0, Math.max(0, Math.min(shops - 1, random.nextInt(4) == 0 ? 40 : 5)));
    }

    private int aTest() {
        return near(0, Math.max(0, tests - 1));
    }

    private int aDay() {
        if (random.nextInt(3) == 0) {
            return day;
        }
        return random.nextInt(8) == 0 ? near(0, 2000) : near(0, day + 2);
    }

    private void shop() {
        int kind = near(0, 4);
        int ward = near(0, 3);
        int a = near(0, random.nextInt(3) == 0 ? 60 : 6);
        int b = near(0, random.nextInt(3) == 0 ? 60 : 6);
        int got = x.shop(kind, ward, a, b);
        shops += got >= 0 ? 1 : 0;
        due("shop(" + kind + ", " + ward + ", " + a + ", " + b + ")", got, y.shop(kind, ward, a, b));
    }

    private void child(int number) {
        int born = near(-7000, -3000);
        due("child(" + number + ", " + born + ")", x.child(number, born), y.child(number, born));
    }

    private void one() {
        int kind = random.nextInt(100);
        if (kind < 8) {
            days();
        } else if (kind < 40) {
            tell(kind);
        } else if (kind < 55) {
            test();
        } else if (kind < 60) {
            if (!climbing || random.nextInt(4) == 0) {
                rule();
            }
        } else if (kind < 80) {
            ask(kind);
        } else {
            askMore(kind);
        }
    }

    private void days() {
        int n = random.nextInt(10) == 0 ? near(1, 200) : near(1, 4);
        int got = x.days(n);
        day = Math.max(day, got);
        due("days(" + n + ")", got, y.days(n));
    }

    private void tell(int kind) {
        int s = aShop();
        int c = near(0, 7);
        boolean on = random.nextInt(3) > 0;
        switch (kind) {
            case 8, 9 -> shop();
            case 10, 11, 12, 13 -> {
                int w = near(1, 20);
                due("weight(" + s + ", " + w + ")", x.weight(s, w), y.weight(s, w));
            }
            case 14, 15, 16, 17 -> due("open(" + s + ", " + on + ")", x.open(s, on), y.open(s, on));
            case 18, 19 -> {
                if (!climbing || random.nextInt(5) == 0) {
                    due("sell(" + s + ")", x.sell(s), y.sell(s));
                }
            }
            case 20 -> child(c);
            case 21, 22 -> {
                int years = near(8, 25);
                due("guess(" + c + ", " + years + ")", x.guess(c, years), y.guess(c, years));
            }
            case 23, 24 -> due("known(" + c + ", " + s + ", " + on + ")", x.known(c, s, on), y.known(c, s, on));
            case 25, 26, 27, 28 -> {
                int n = random.nextInt(2) == 0 ? near(1, 40) : near(1, Math.max(1, shops));
                int u = near(0, 999);
                due("draw(" + n + ", " + u + ")", x.draw(n, u), y.draw(n, u));
            }
            case 29, 30 -> {
                int t = aTest();
                due("appeal(" + t + ")", x.appeal(t), y.appeal(t));
            }
            case 31 -> {
                int v = random.nextBoolean() ? near(0, 2000) : near(100, 400);
                due("leave(" + v + ")", x.leave(v), y.leave(v));
            }
            case 32, 33 -> {
                int seed = near(0, 99999);
                due("letters(" + seed + ")", x.letters(seed), y.letters(seed));
            }
            case 34, 35, 36, 37 -> clerk(s);
            default -> {
                int k = near(0, 4);
                int v = near(0, 500);
                due("cost(" + k + ", " + v + ")", x.cost(k, v), y.cost(k, v));
            }
        }
    }

    private void clerk(int s) {
        int who = near(0, 9);
        int from = near(0, 23);
        int to = near(1, 24);
        int on = near(day, Math.min(2000, day + 3));
        due("clerk(" + who + ", " + s + ", " + from + ", " + to + ", " + on + ")",
                x.clerk(who, s, from, to, on), y.clerk(who, s, from, to, on));
    }

    private void test() {
        int s = aShop();
        int c = near(0, 7);
        int g = near(0, 3);
        int on = near(Math.max(testDay, day - 5), Math.max(testDay, day));
        int hour = near(0, 23);
        int bits = near(0, 7) | (random.nextInt(3) == 0 ? 4 : 0);
        int got = x.test(s, c, g, on, hour, bits);
        if (got >= 0) {
            tests++;
            testDay = on;
        }
        due("test(" + s + ", " + c + ", " + g + ", " + on + ", " + hour + ", " + bits + ")", got,
                y.test(s, c, g, on, hour, bits));
    }

    private void rule() {
        String text = ruleText(random.nextInt(4));
        if (random.nextInt(12) == 0) {
            text += SIGNS.charAt(random.nextInt(SIGNS.length()));
        }
        int use = near(0, 4);
        int on = near(day, Math.min(2000, day + 4));
        if (climbing && random.nextInt(3) > 0) {
            text = EASY[random.nextInt(EASY.length)];
        }
        rule(text, use, on);
    }

    private void rule(String text, int use, int on) {
        for (int at = 0; at < text.length(); at += 8) {
            int n = Math.min(8, text.length() - at);
            long packed = n < 8 ? random.nextLong() << 8 * n : 0;
            for (int i = 0; i < n; i++) {
                packed |= (long) text.charAt(at + i) << 8 * i;
            }
            due("feed(" + n + ", " + packed + ")", x.feed(n, packed), y.feed(n, packed));
        }
        if (random.nextInt(20) == 0) {
            int n = near(1, 8);
            due("feed(" + n + ", 97)", x.feed(n, 97L), y.feed(n, 97L));
        }
        due("rule(" + use + ", " + on + ") of " + text, x.rule(use, on), y.rule(use, on));
    }

    private String ruleText(int deep) {
        StringBuilder s = new StringBuilder();
        int terms = 1 + random.nextInt(2);
        for (int t = 0; t < terms; t++) {
            s.append(t > 0 ? "|" : "");
            int parts = 1 + random.nextInt(2);
            for (int p = 0; p < parts; p++) {
                s.append(p > 0 ? "&" : "").append(part(deep));
            }
        }
        return s.length() > 76 ? "s" : s.toString();
    }

    private String part(int deep) {
        int kind = random.nextInt(10);
        if (kind == 0 || kind == 1 && deep > 3) {
            return "!" + (deep > 0 ? part(deep - 1) : "c");
        }
        if (kind < 4 && deep > 0) {
            return "(" + ruleText(deep - 1) + ")";
        }
        if (kind < 6) {
            return sum();
        }
        return sum() + "<=>".charAt(random.nextInt(3)) + sum();
    }

    private String sum() {
        StringBuilder s = new StringBuilder(unit());
        for (int i = random.nextInt(3); i > 1; i--) {
            s.append(random.nextBoolean() ? "+" : "-").append(unit());
        }
        return s.toString();
    }

    private String unit() {
        if (random.nextInt(3) > 0) {
            return String.valueOf(LETTERS.charAt(random.nextInt(LETTERS.length())));
        }
        int[] below = {2, 5, 20, 100, 1000, 10000};
        return String.valueOf(random.nextInt(below[random.nextInt(below.length)]));
    }

    private void ask(int kind) {
        int t = aTest();
        int k = aDay();
        int s = aShop();
        int what = near(0, 2);
        switch (kind) {
            case 60, 61, 62, 63 ->
                due("testOf(" + t + ", " + k + ", " + what + ")", x.testOf(t, k, what), y.testOf(t, k, what));
            case 64, 65, 66, 67, 68 -> {
                int letter = random.nextInt(10) == 0 ? near(0, 255) : LETTERS.charAt(random.nextInt(13));
                due("fact(" + t + ", " + k + ", " + letter + ")", x.fact(t, k, letter), y.fact(t, k, letter));
            }
            case 69, 70, 71, 72 -> {
                int on = aDay();
                due("step(" + s + ", " + on + ", " + k + ")", x.step(s, on, k), y.step(s, on, k));
            }
            case 73 -> due("lost()", x.lost(), y.lost());
            case 74 -> {
                int c = near(0, 7);
                due("childOf(" + c + ", " + what + ")", x.childOf(c, what), y.childOf(c, what));
            }
            case 75, 76, 77 ->
                due("drawn(" + s + ", " + what + ")", x.drawn(s, what), y.drawn(s, what));
            case 78 -> {
                int use = near(0, 4);
                due("force(" + use + ", " + k + ")", x.force(use, k), y.force(use, k));
            }
            default -> due("letter(" + s + ")", x.letter(s), y.letter(s));
        }
    }

    private void askMore(int kind) {
        int what = near(0, 6);
        int on = aDay();
        int c = near(0, 7);
        int e = near(0, 7);
        switch (kind) {
            case 80, 81, 82, 83 -> {
                int part = near(0, 3);
                due("back(" + part + ")", back(part), y.back(part));
            }
            case 84 -> {
                int half = near(0, 1);
                due("work(" + c + ", " + e + ", " + half + ")", x.work(c, e, half), y.work(c, e, half));
            }
            case 85 -> {
                boolean second = random.nextBoolean();
                int i = near(0, 3);
                due("workAt(" + c + ", " + e + ", " + second + ", " + i + ")", x.workAt(c, e, second, i),
                        y.workAt(c, e, second, i));
            }
            case 86, 87, 88 -> due("helped(" + on + ", " + what + ")", x.helped(on, what), y.helped(on, what));
            case 89, 90, 91 -> {
                int a = near(0, 3);
                int b = near(0, 3);
                due("wards(" + a + ", " + b + ", " + on + ", " + what + ")", x.wards(a, b, on, what),
                        y.wards(a, b, on, what));
            }
            case 92, 93 -> {
                int who = near(0, 9);
                int half = near(0, 1);
                due("tally(" + who + ", " + half + ")", x.tally(who, half), y.tally(who, half));
            }
            case 94 -> due("worst()", x.worst(), y.worst());
            case 95, 96 -> {
                int budget = random.nextBoolean() ? near(0, 20000) : near(0, 500);
                due("most(" + budget + ")", x.most(budget), y.most(budget));
            }
            default -> {
                int n = near(0, 17);
                due("count(" + n + ")", x.count(n), y.count(n));
            }
        }
    }

    private long back(int what) {
        try {
            return x.back(what);
        } catch (IllegalStateException e) {
            return PlainModel.STATE_EXCEPTION;
        } catch (IllegalArgumentException e) {
            return PlainModel.ARGUMENT_EXCEPTION;
        }
    }
}
