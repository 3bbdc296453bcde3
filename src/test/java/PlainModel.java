import java.math.BigInteger;
import java.util.ArrayList;
import java.util.Collections;
import java.util.List;
import java.util.TreeMap;
import java.util.regex.Pattern;

/**
 * The document written down a second time, slowly and with the Java library: fractions of BigIntegers,
 * rules by cutting texts, ways by trying all orders. ModelTest holds the program against it.
 */
final class PlainModel {
    static final long STATE_EXCEPTION = Long.MIN_VALUE;
    static final long ARGUMENT_EXCEPTION = Long.MIN_VALUE + 1;

    private record Frac(BigInteger above, BigInteger below) {
        static Frac of(long a, long b) {
            return new Frac(BigInteger.valueOf(a), BigInteger.valueOf(b)).reduced();
        }

        Frac reduced() {
            BigInteger g = above.gcd(below);
            return new Frac(above.divide(g), below.divide(g));
        }

        Frac plus(Frac o) {
            return new Frac(above.multiply(o.below).add(o.above.multiply(below)), below.multiply(o.below)).reduced();
        }

        Frac times(Frac o) {
            return new Frac(above.multiply(o.above), below.multiply(o.below)).reduced();
        }

        Frac turned() {
            return new Frac(below, above);
        }

        int against(Frac o) {
            return above.multiply(o.below).compareTo(o.above.multiply(below));
        }
    }

    private static final class Shop {
        int kind;
        int ward;
        int x;
        int y;
        int weight = 1;
        boolean open = true;
        final List<Integer> since = new ArrayList<>();

        int ownerOn(int day) {
            int owner = -1;
            for (int from : since) {
                owner += from <= day ? 1 : 0;
            }
            return owner;
        }
    }

    private static final class Child {
        int born;
        final List<Integer> guesses = new ArrayList<>();
        final List<Integer> knownIn = new ArrayList<>();

        int age(int day) {
            return (day - born) / 365;
        }

        int looks(int day) {
            List<Integer> sorted = new ArrayList<>(guesses);
            Collections.sort(sorted);
            return sorted.isEmpty() ? age(day) : sorted.get(sorted.size() / 2);
        }
    }

    private record Rule(String text, int use, int day) { }

    private record Shift(int clerk, int shop, int from, int to, int day) { }

    private static final class Test {
        int shop;
        int child;
        int day;
        int hour;
        int bits;
        int known;
        int voided = 9999;

        boolean sold() {
            return bits >= 4;
        }

        boolean counts(int k) {
            return known <= k && voided > k;
        }
    }

    /** What came out for one TEST. */
    private static final class Outcome {
        boolean counts;
        boolean good;
        int step;
        final TreeMap<Character, Integer> facts = new TreeMap<>();
    }

    private int day = 0;
    private final List<Shop> shops = new ArrayList<>();
    private final Child[] children = new Child[8];
    private final List<Rule> rules = new ArrayList<>();
    private final List<Test> tests = new ArrayList<>();
    private final List<Shift> shifts = new ArrayList<>();
    private String tape = "";
    private TreeMap<Integer, Frac> parts = null;
    private final List<Integer> drawn = new ArrayList<>();
    private final List<Integer> lettered = new ArrayList<>();
    private final int[] refusals = new int[6];
    private final int[] costs = {20, 20, 20, 20, 20};
    private int leave = 300;

    private int refuse(int number) {
        refusals[-number - 1]++;
        return number;
    }

    private boolean noShop(int shop) {
        return shop < 0 || shop >= shops.size();
    }

    private static boolean outOf(int number, int size) {
        return number < 0 || number >= size;
    }

    int days(int n) {
        if (n < 1) {
            return refuse(-4);
        }
        if ((long) day + n > 2000) {
            return refuse(-6);
        }
        return day += n;
    }

    int shop(int kind, int ward, int x, int y) {
        if (outOf(kind, 5)) {
            return refuse(-2);
        }
        if (outOf(ward, 4)) {
            return refuse(-1);
        }
        if (Math.min(x, y) < 0) {
            return refuse(-4);
        }
        if (Math.max(x, y) > 60 || shops.size() == 40) {
            return refuse(-6);
        }
        Shop s = new Shop();
        s.kind = kind;
        s.ward = ward;
        s.x = x;
        s.y = y;
        s.since.add(day);
        shops.add(s);
        return shops.size() - 1;
    }

    int weight(int shop, int w) {
        if (noShop(shop)) {
            return refuse(-1);
        }
        if (w < 1 || w > 20) {
            return refuse(w < 1 ? -4 : -6);
        }
        int was = shops.get(shop).weight;
        shops.get(shop).weight = w;
        return was;
    }

    int open(int shop, boolean on) {
        if (noShop(shop)) {
            return refuse(-1);
        }
        boolean was = shops.get(shop).open;
        shops.get(shop).open = on;
        return was == on ? 0 : 1;
    }

    int sell(int shop) {
        if (noShop(shop)) {
            return refuse(-1);
        }
        List<Integer> since = shops.get(shop).since;
        if (since.contains(day)) {
            return refuse(-3);
        }
        if (since.size() == 6) {
            return refuse(-6);
        }
        since.add(day);
        return since.size();
    }

    int child(int child, int born) {
        if (outOf(child, 8)) {
            return refuse(-1);
        }
        if (born < -7000 || born > -3000) {
            return refuse(born < -7000 ? -4 : -6);
        }
        boolean was = children[child] != null;
        children[child] = new Child();
        children[child].born = born;
        return was ? 0 : 1;
    }

    int guess(int child, int years) {
        if (outOf(child, 8)) {
            return refuse(-1);
        }
        if (children[child] == null) {
            return refuse(-5);
        }
        if (years < 8) {
            return refuse(-4);
        }
        if (years > 25 || children[child].guesses.size() == 12) {
            return refuse(-6);
        }
        children[child].guesses.add(years);
        return children[child].guesses.size();
    }

    int childOf(int child, int what) {
        if (outOf(child, 8)) {
            return refuse(-1);
        }
        if (children[child] == null) {
            return refuse(-5);
        }
        if (outOf(what, 2)) {
            return refuse(-2);
        }
        return what == 0 ? children[child].age(day) : children[child].looks(day);
    }

    int known(int child, int shop, boolean on) {
        if (outOf(child, 8) || noShop(shop)) {
            return refuse(-1);
        }
        if (children[child] == null) {
            return refuse(-5);
        }
        List<Integer> in = children[child].knownIn;
        if (in.contains(shop) == on) {
            return 0;
        }
        if (on) {
            in.add(shop);
        } else {
            in.remove(Integer.valueOf(shop));
        }
        return 1;
    }

    private List<Integer> openShops() {
        List<Integer> list = new ArrayList<>();
        for (int i = 0; i < shops.size(); i++) {
            if (shops.get(i).open) {
                list.add(i);
            }
        }
        return list;
    }

    private TreeMap<Integer, Frac> partsOf(int n) {
        TreeMap<Integer, Frac> result = new TreeMap<>();
        List<Integer> others = openShops();
        Frac one = Frac.of(1, 1);
        int left = n;
        boolean more = true;
        while (more) {
            more = false;
            long all = 0;
            for (int s : others) {
                all += shops.get(s).weight;
            }
            List<Integer> rest = new ArrayList<>();
            for (int s : others) {
                Frac part = Frac.of((long) left * shops.get(s).weight, all);
                if (part.against(one) >= 0) {
                    result.put(s, one);
                    more = true;
                } else {
                    result.put(s, part);
                    rest.add(s);
                }
            }
            left -= others.size() - rest.size();
            others = rest;
        }
        return result;
    }

    int draw(int n, int u) {
        if (openShops().isEmpty()) {
            return refuse(-3);
        }
        if (n < 1 || u < 0) {
            return refuse(-4);
        }
        if (n > 40 || u > 999) {
            return refuse(-6);
        }
        parts = partsOf(n);
        drawn.clear();
        lettered.clear();
        Frac begin = Frac.of(0, 1);
        for (int s : parts.keySet()) {
            Frac part = parts.get(s);
            if (part.equals(Frac.of(1, 1))) {
                drawn.add(s);
                continue;
            }
            Frac end = begin.plus(part);
            for (int j = 0; j <= n; j++) {
                Frac point = Frac.of(u + 1000L * j, 1000);
                if (point.against(begin) >= 0 && point.against(end) < 0) {
                    drawn.add(s);
                }
            }
            begin = end;
        }
        return drawn.size();
    }

    int drawn(int shop, int what) {
        if (parts == null) {
            return refuse(-5);
        }
        if (noShop(shop)) {
            return refuse(-1);
        }
        if (outOf(what, 3)) {
            return refuse(-2);
        }
        if (what == 0) {
            return drawn.contains(shop) ? 1 : 0;
        }
        Frac part = parts.getOrDefault(shop, Frac.of(0, 1));
        return (what == 1 ? part.above : part.below).intValueExact();
    }

    long back(int what) {
        if (parts == null) {
            return STATE_EXCEPTION;
        }
        if (outOf(what, 4)) {
            return ARGUMENT_EXCEPTION;
        }
        List<Outcome> weighed = weigh(day);
        Frac sum = Frac.of(0, 1);
        for (int s : drawn) {
            boolean sold = false;
            for (int t = tests.size() - 1; t >= 0; t--) {
                if (tests.get(t).shop == s && weighed.get(t).good) {
                    sold = tests.get(t).sold();
                    break;
                }
            }
            if (what >= 2 || sold) {
                sum = sum.plus(parts.get(s).turned());
            }
        }
        return (what % 2 == 0 ? sum.above : sum.below).longValueExact();
    }

    int feed(int n, long bytes) {
        if (n < 1) {
            return refuse(-4);
        }
        if (n > 8 || tape.length() + n > 80) {
            return refuse(-6);
        }
        for (int i = 0; i < n; i++) {
            tape += (char) (bytes >> 8 * i & 255);
        }
        return tape.length();
    }

    int rule(int use, int from) {
        if (outOf(use, 5)) {
            return refuse(-2);
        }
        if (from < day) {
            return refuse(-4);
        }
        if (from > 2000 || rules.size() == 20) {
            return refuse(-6);
        }
        String text = tape;
        tape = "";
        int fault = faultOf(text);
        if (fault >= 0) {
            return -20 - fault;
        }
        rules.add(new Rule(text, use, from));
        return rules.size() - 1;
    }

    private static final String UNIT = "(?:[abcghknopdsym]|[0-9]{1,4})";
    private static final String SUM = UNIT + "(?:[-+]" + UNIT + ")*";
    private static final Pattern PLAIN = Pattern.compile(SUM + "(?:[<=>]" + SUM + ")?");

    /** The first byte with which no rule could begin any more. */
    static int faultOf(String text) {
        for (int n = 1; n <= text.length(); n++) {
            if (!canGoOn(text.substring(0, n))) {
                return n - 1;
            }
        }
        return isRule(text, 0) ? -1 : text.length();
    }

    private static boolean canGoOn(String beginning) {
        String end = "";
        for (int closed = 0; closed <= 6; closed++) {
            if (isRule(beginning + end, 0) || isRule(beginning + "a" + end, 0)) {
                return true;
            }
            end += ")";
        }
        return false;
    }

    private static boolean isRule(String text, int deep) {
        for (String term : cut(text, '|')) {
            for (String part : cut(term, '&')) {
                if (!isPart(part, deep)) {
                    return false;
                }
            }
        }
        return true;
    }

    private static boolean isPart(String part, int deep) {
        if (part.startsWith("!")) {
            return deep < 6 && isPart(part.substring(1), deep + 1);
        }
        if (part.startsWith("(")) {
            return deep < 6 && part.endsWith(")") && isRule(part.substring(1, part.length() - 1), deep + 1);
        }
        return PLAIN.matcher(part).matches();
    }

    /** Cuts at a sign that stands in no bracket. */
    private static List<String> cut(String text, char sign) {
        List<String> pieces = new ArrayList<>();
        int open = 0;
        int from = 0;
        for (int i = 0; i < text.length(); i++) {
            char at = text.charAt(i);
            open += at == '(' ? 1 : at == ')' ? -1 : 0;
            if (at == sign && open == 0) {
                pieces.add(text.substring(from, i));
                from = i + 1;
            }
        }
        pieces.add(text.substring(from));
        return pieces;
    }

    private static boolean holds(String text, TreeMap<Character, Integer> facts) {
        for (String term : cut(text, '|')) {
            boolean all = true;
            for (String part : cut(term, '&')) {
                all &= partHolds(part, facts);
            }
            if (all) {
                return true;
            }
        }
        return false;
    }

    private static boolean partHolds(String part, TreeMap<Character, Integer> facts) {
        if (part.startsWith("!")) {
            return !partHolds(part.substring(1), facts);
        }
        if (part.startsWith("(")) {
            return holds(part.substring(1, part.length() - 1), facts);
        }
        for (char sign : "<=>".toCharArray()) {
            int at = part.indexOf(sign);
            if (at >= 0) {
                int order = Integer.compare(sum(part.substring(0, at), facts), sum(part.substring(at + 1), facts));
                return order == (sign == '<' ? -1 : sign == '=' ? 0 : 1);
            }
        }
        return sum(part, facts) > 0;
    }

    private static int sum(String text, TreeMap<Character, Integer> facts) {
        int sum = 0;
        for (String piece : text.split("(?=[-+])")) {
            boolean signed = piece.startsWith("-") || piece.startsWith("+");
            String unit = signed ? piece.substring(1) : piece;
            int value = Character.isDigit(unit.charAt(0)) ? Integer.parseInt(unit) : facts.get(unit.charAt(0));
            sum += piece.startsWith("-") ? -value : value;
        }
        return sum;
    }

    int force(int use, int on) {
        if (outOf(use, 5)) {
            return refuse(-2);
        }
        if (on < 0 || on > 2000) {
            return refuse(on < 0 ? -4 : -6);
        }
        return inForce(use, on);
    }

    private int inForce(int use, int on) {
        int best = -9;
        for (int i = 0; i < rules.size(); i++) {
            Rule r = rules.get(i);
            if (r.use == use && r.day <= on && (best < 0 || r.day >= rules.get(best).day)) {
                best = i;
            }
        }
        return best;
    }

    int test(int shop, int child, int grown, int on, int hour, int bits) {
        if (noShop(shop) || outOf(child, 8) || outOf(grown, 4)) {
            return refuse(-1);
        }
        if (outOf(bits, 8)) {
            return refuse(-2);
        }
        if (children[child] == null) {
            return refuse(-5);
        }
        boolean late = !tests.isEmpty() && on < tests.get(tests.size() - 1).day;
        if (!shops.get(shop).open || on < shops.get(shop).since.get(0) || on > day || late) {
            return refuse(-3);
        }
        if (hour < 0) {
            return refuse(-4);
        }
        if (hour > 23 || tests.size() == 100) {
            return refuse(-6);
        }
        Test t = new Test();
        t.shop = shop;
        t.child = child;
        t.day = on;
        t.hour = hour;
        t.bits = bits;
        t.known = day;
        tests.add(t);
        return tests.size() - 1;
    }

    int appeal(int test) {
        if (outOf(test, tests.size())) {
            return refuse(-1);
        }
        if (tests.get(test).voided <= day) {
            return refuse(-3);
        }
        tests.get(test).voided = day;
        return 1;
    }

    private boolean sameOwner(Test a, Test b) {
        return a.shop == b.shop && ownerOf(a) == ownerOf(b);
    }

    private int ownerOf(Test t) {
        return shops.get(t.shop).ownerOn(t.day);
    }

    private List<Outcome> weigh(int k) {
        List<Outcome> all = new ArrayList<>();
        for (int i = 0; i < tests.size(); i++) {
            Test t = tests.get(i);
            Outcome o = new Outcome();
            all.add(o);
            o.counts = t.counts(k);
            if (!o.counts) {
                continue;
            }
            gather(i, k, all, o);
            int first = inForce(0, t.day);
            o.good = first < 0 || holds(rules.get(first).text, o.facts);
            int y = o.facts.get('y');
            int next = y < 4 ? inForce(y + 1, t.day) : -9;
            if (o.good && t.sold() && next >= 0 && holds(rules.get(next).text, o.facts)) {
                o.step = y + 1;
            }
        }
        return all;
    }

    private void gather(int i, int k, List<Outcome> all, Outcome o) {
        Test t = tests.get(i);
        Child child = children[t.child];
        int visits = 0;
        int goods = 0;
        int solds = 0;
        int step = 0;
        int sinceGood = 999;
        int months = 99;
        for (int j = 0; j < i; j++) {
            Test u = tests.get(j);
            if (u.counts(k) && u.shop == t.shop && u.child == t.child) {
                visits++;
            }
            if (all.get(j).good && sameOwner(u, t)) {
                goods++;
                solds += u.sold() ? 1 : 0;
                sinceGood = t.day - u.day;
                if (all.get(j).step > 0) {
                    step = all.get(j).step;
                    months = (t.day - u.day) / 30;
                }
            }
        }
        String letters = "abcghknopdsym";
        int[] values = {child.age(t.day), child.looks(t.day), t.bits / 2 % 2, t.bits % 2, t.hour, visits,
            child.knownIn.contains(t.shop) ? 1 : 0, goods, solds, sinceGood, t.bits / 4, step, months};
        for (int n = 0; n < values.length; n++) {
            o.facts.put(letters.charAt(n), values[n]);
        }
    }

    int testOf(int test, int k, int what) {
        if (outOf(test, tests.size())) {
            return refuse(-1);
        }
        if (outOf(what, 3)) {
            return refuse(-2);
        }
        if (k < 0 || k > 2000) {
            return refuse(k < 0 ? -4 : -6);
        }
        Outcome o = weigh(k).get(test);
        return what == 0 ? (o.counts ? 1 : 0) : what == 1 ? (o.good ? 1 : 0) : o.step;
    }

    int fact(int test, int k, int letter) {
        if (outOf(test, tests.size())) {
            return refuse(-1);
        }
        if (letter < 1 || "abcghknopdsym".indexOf(letter) < 0) {
            return refuse(-2);
        }
        if (k < 0 || k > 2000) {
            return refuse(k < 0 ? -4 : -6);
        }
        Outcome o = weigh(k).get(test);
        return o.counts ? o.facts.get((char) letter) : refuse(-3);
    }

    private int stepOn(int shop, int on, int k) {
        List<Outcome> all = weigh(k);
        int step = 0;
        for (int i = 0; i < tests.size(); i++) {
            Test t = tests.get(i);
            if (t.shop == shop && t.day <= on && ownerOf(t) == shops.get(shop).ownerOn(on)) {
                step = Math.max(step, all.get(i).step);
            }
        }
        return step;
    }

    int step(int shop, int on, int k) {
        if (noShop(shop)) {
            return refuse(-1);
        }
        if (Math.min(on, k) < 0) {
            return refuse(-4);
        }
        if (Math.max(on, k) > 2000) {
            return refuse(-6);
        }
        if (shops.get(shop).since.get(0) > on) {
            return refuse(-3);
        }
        return stepOn(shop, on, k);
    }

    int lost() {
        int lost = 0;
        for (int s : openShops()) {
            lost += stepOn(s, day, day) == 4 ? 1 : 0;
        }
        return lost;
    }

    int leave(int v) {
        if (v < 0 || v > 2000) {
            return refuse(v < 0 ? -4 : -6);
        }
        int was = leave;
        leave = v;
        return was;
    }

    private int workRefusal(int c, int e) {
        if (outOf(c, 8) || outOf(e, 8) || c == e) {
            return -1;
        }
        return children[c] == null || children[e] == null || parts == null ? -5 : 0;
    }

    /** The best order of a team: its TIME and its SHOPS. */
    private record Tour(int time, List<Integer> order) { }

    private record Plan(Tour first, Tour second) {
        int longer() {
            return Math.max(first.time, second.time);
        }

        int shorter() {
            return Math.min(first.time, second.time);
        }
    }

    private Tour best;

    private Tour tourOf(List<Integer> todo) {
        if (todo.isEmpty()) {
            return new Tour(0, todo);
        }
        best = null;
        tryOrders(new ArrayList<>(), todo, 0, 0, 0);
        return new Tour(best.time + 10 * todo.size(), best.order);
    }

    /** Orders are tried with the least numbers first, so the first of the shortest stays. */
    private void tryOrders(List<Integer> done, List<Integer> todo, int x, int y, int way) {
        if (best != null && way >= best.time) {
            return;
        }
        if (todo.isEmpty()) {
            if (best == null || way + x + y < best.time) {
                best = new Tour(way + x + y, new ArrayList<>(done));
            }
            return;
        }
        for (int s : todo) {
            Shop shop = shops.get(s);
            List<Integer> rest = new ArrayList<>(todo);
            rest.remove(Integer.valueOf(s));
            done.add(s);
            tryOrders(done, rest, shop.x, shop.y, way + Math.abs(shop.x - x) + Math.abs(shop.y - y));
            done.remove(done.size() - 1);
        }
    }

    private boolean may(int child, int shop) {
        for (Test t : tests) {
            if (t.child == child && t.shop == shop && t.counts(day)) {
                return false;
            }
        }
        return !children[child].knownIn.contains(shop);
    }

    private Plan plan(int c, int e) {
        List<Integer> todo = new ArrayList<>();
        for (int s : drawn) {
            if (shops.get(s).open && todo.size() < 8) {
                todo.add(s);
            }
        }
        Plan found = null;
        for (int toSecond = 0; toSecond < 1 << todo.size(); toSecond++) {
            List<Integer> one = new ArrayList<>();
            List<Integer> two = new ArrayList<>();
            boolean fits = true;
            for (int i = 0; i < todo.size(); i++) {
                boolean second = (toSecond >> todo.size() - 1 - i & 1) == 1;
                (second ? two : one).add(todo.get(i));
                fits &= may(second ? e : c, todo.get(i));
            }
            if (!fits) {
                continue;
            }
            Plan p = new Plan(tourOf(one), tourOf(two));
            boolean better = found == null || p.longer() < found.longer()
                    || p.longer() == found.longer() && p.shorter() < found.shorter();
            if (p.longer() <= leave && better) {
                found = p;
            }
        }
        return found;
    }

    int work(int c, int e, int what) {
        if (workRefusal(c, e) != 0) {
            return refuse(workRefusal(c, e));
        }
        if (outOf(what, 2)) {
            return refuse(-2);
        }
        Plan p = plan(c, e);
        return p == null ? -9 : what == 0 ? p.longer() : p.shorter();
    }

    int workAt(int c, int e, boolean second, int i) {
        if (workRefusal(c, e) != 0) {
            return refuse(workRefusal(c, e));
        }
        Plan p = plan(c, e);
        if (p == null) {
            return -9;
        }
        List<Integer> order = (second ? p.second : p.first).order;
        return outOf(i, order.size()) ? -9 : order.get(i);
    }

    int letters(int seed) {
        if (parts == null) {
            return refuse(-5);
        }
        if (seed < 0 || seed > 99999) {
            return refuse(seed < 0 ? -4 : -6);
        }
        lettered.clear();
        long number = seed;
        int m = drawn.size();
        for (int i = 0; i < m; i++) {
            number = (number * 171 + 11213) % 53125;
            if (number % (m - i) < m / 2 - lettered.size()) {
                lettered.add(drawn.get(i));
            }
        }
        return lettered.size();
    }

    int letter(int shop) {
        return noShop(shop) ? refuse(-1) : lettered.contains(shop) ? 1 : 0;
    }

    private static BigInteger choose(int n, int k) {
        if (k < 0 || k > n) {
            return BigInteger.ZERO;
        }
        BigInteger[] row = new BigInteger[n + 1];
        for (int i = 0; i <= n; i++) {
            row[i] = BigInteger.ONE;
            for (int j = i - 1; j > 0; j--) {
                row[j] = row[j].add(row[j - 1]);
            }
        }
        return row[k];
    }

    private long table(List<Integer> first, List<Integer> second, int from, int what) {
        List<Outcome> all = weigh(day);
        int[] ones = new int[2];
        int[] sold = new int[2];
        for (int half = 0; half < 2; half++) {
            for (int s : half == 0 ? first : second) {
                for (int t = 0; t < tests.size(); t++) {
                    Test test = tests.get(t);
                    if (all.get(t).good && test.shop == s && test.day >= from) {
                        ones[half]++;
                        sold[half] += test.sold() ? 1 : 0;
                        break;
                    }
                }
            }
        }
        int bought = sold[0] + sold[1];
        BigInteger few = BigInteger.ZERO;
        for (int i = 0; i <= sold[0]; i++) {
            few = few.add(choose(ones[0], i).multiply(choose(ones[1], bought - i)));
        }
        Frac chance = new Frac(few, choose(ones[0] + ones[1], bought)).reduced();
        long[] answers = {chance.above.longValueExact(), chance.below.longValueExact(), ones[0], sold[0], ones[1],
            sold[1], chance.against(Frac.of(1, 20)) <= 0 ? 1 : 0};
        return answers[what];
    }

    long helped(int from, int what) {
        if (outOf(what, 7)) {
            return refuse(-2);
        }
        if (from < 0 || from > 2000) {
            return refuse(from < 0 ? -4 : -6);
        }
        List<Integer> without = new ArrayList<>(drawn);
        without.removeAll(lettered);
        return table(lettered, without, from, what);
    }

    long wards(int a, int b, int from, int what) {
        if (outOf(a, 4) || outOf(b, 4) || a == b) {
            return refuse(-1);
        }
        if (outOf(what, 7)) {
            return refuse(-2);
        }
        if (from < 0 || from > 2000) {
            return refuse(from < 0 ? -4 : -6);
        }
        List<Integer> first = new ArrayList<>();
        List<Integer> second = new ArrayList<>();
        for (int s = 0; s < shops.size(); s++) {
            if (shops.get(s).ward == a) {
                first.add(s);
            } else if (shops.get(s).ward == b) {
                second.add(s);
            }
        }
        return table(first, second, from, what);
    }

    int clerk(int clerk, int shop, int from, int to, int on) {
        if (outOf(clerk, 10) || noShop(shop)) {
            return refuse(-1);
        }
        if (from < 0 || to < 1 || to <= from || on < day) {
            return refuse(-4);
        }
        if (from > 23 || to > 24 || on > 2000 || shifts.size() == 40) {
            return refuse(-6);
        }
        shifts.add(new Shift(clerk, shop, from, to, on));
        return shifts.size();
    }

    private int[] tallyOf(int clerk) {
        List<Outcome> all = weigh(day);
        int[] found = new int[2];
        for (int t = 0; t < tests.size(); t++) {
            Test test = tests.get(t);
            for (int i = shifts.size() - 1; i >= 0; i--) {
                Shift s = shifts.get(i);
                if (s.shop == test.shop && s.from <= test.hour && test.hour < s.to && s.day <= test.day) {
                    if (all.get(t).good && s.clerk == clerk) {
                        found[0]++;
                        found[1] += test.sold() ? 1 : 0;
                    }
                    break;
                }
            }
        }
        return found;
    }

    int tally(int clerk, int what) {
        if (outOf(clerk, 10)) {
            return refuse(-1);
        }
        return outOf(what, 2) ? refuse(-2) : tallyOf(clerk)[what];
    }

    int worst() {
        int worst = -9;
        Frac part = Frac.of(-1, 1);
        for (int clerk = 0; clerk < 10; clerk++) {
            int[] tally = tallyOf(clerk);
            if (tally[0] >= 2 && Frac.of(tally[1], tally[0]).against(part) > 0) {
                worst = clerk;
                part = Frac.of(tally[1], tally[0]);
            }
        }
        return worst;
    }

    int cost(int kind, int v) {
        if (outOf(kind, 5)) {
            return refuse(-2);
        }
        if (v < 0 || v > 500) {
            return refuse(v < 0 ? -4 : -6);
        }
        int was = costs[kind];
        costs[kind] = v;
        return was;
    }

    int most(int budget) {
        if (openShops().isEmpty()) {
            return refuse(-3);
        }
        if (budget < 0 || budget > 20000) {
            return refuse(budget < 0 ? -4 : -6);
        }
        int most = 0;
        for (int n = 1; n <= 40; n++) {
            TreeMap<Integer, Frac> told = partsOf(n);
            Frac sum = Frac.of(0, 1);
            for (int s : told.keySet()) {
                sum = sum.plus(told.get(s).times(Frac.of(costs[shops.get(s).kind], 1)));
            }
            if (sum.against(Frac.of(budget, 1)) <= 0) {
                most = n;
            }
        }
        return most;
    }

    int count(int what) {
        if (what >= 11 && what <= 16) {
            return refusals[what - 11];
        }
        int told = 0;
        for (Child child : children) {
            told += child != null ? 1 : 0;
        }
        int voided = 0;
        int good = 0;
        int sold = 0;
        List<Outcome> all = weigh(day);
        for (int t = 0; t < tests.size(); t++) {
            voided += tests.get(t).voided <= day ? 1 : 0;
            good += all.get(t).good ? 1 : 0;
            sold += all.get(t).good && tests.get(t).sold() ? 1 : 0;
        }
        int[] answers = {day, shops.size(), openShops().size(), told, rules.size(), tests.size(), voided, good, sold,
            drawn.size(), lettered.size()};
        return what == 17 ? tape.length() : outOf(what, answers.length) ? -9 : answers[what];
    }
}
