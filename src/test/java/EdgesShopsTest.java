/** Boundary cases of promises 1 to 6 and of what "Terms" I says of DAYS, SHOPS and OWNERS. */
public final class EdgesShopsTest {
    public static void main(String[] args) {
        Check c = new Check();
        aNewObject(c);
        atMost512Calls(c);
        daysFromNothing(c);
        daysFromSome(c);
        daysAtTheEnd(c);
        shopArguments(c);
        shopOrder(c);
        fortyShops(c);
        aShopAtFirst(c);
        weights(c);
        weightOrder(c);
        openOrShut(c);
        sellAShop(c);
        soldOnThisDay(c);
        sixOwners(c);
        ownersByDays(c);
        ownersOfOtherShops(c);
        c.end();
    }

    private static YoungBuyers after(int days) {
        YoungBuyers x = new YoungBuyers();
        x.days(days);
        return x;
    }

    private static YoungBuyers shops(int n) {
        YoungBuyers x = new YoungBuyers();
        for (int i = 0; i < n; i++) {
            x.shop(i % 5, i % 4, i, 60 - i);
        }
        return x;
    }

    /** "DAY 0; nothing." */
    private static void aNewObject(Check c) {
        for (int what = 0; what <= 17; what++) {
            c.due("count of a new object", new YoungBuyers().count(what), 0);
        }
        Twins.Town empty = YoungBuyers::new;
        Twins.refuses(c, "no shop 0 in a new object", empty, -1, x -> x.weight(0, 1));
        Twins.refuses(c, "no test 0 in a new object", empty, -1, x -> x.appeal(0));
        Twins.refuses(c, "no child told in a new object", empty, -5, x -> x.childOf(0, 0));
        Twins.refuses(c, "nothing drawn in a new object", empty, -5, x -> x.drawn(0, 0));
        Twins.leaves(c, "no rule in a new object", empty, -9, x -> x.force(0, 0));
        Twins.leaves(c, "no tape in a new object: a fault at its end", empty, -20, x -> x.rule(0, 0));
    }

    /** "An object is used for at most 512 calls": the 512th is answered as the first one. */
    private static void atMost512Calls(Check c) {
        YoungBuyers x = new YoungBuyers();
        for (int i = 1; i <= 510; i++) {
            c.due("call " + i, x.days(1), i);
        }
        c.due("call 511", x.days(-1), -4);
        c.due("call 512", x.count(14), 1);
    }

    /** "DAYS go on from 0 (2000 at most)"; "-4 below 1; -6 above 2000". */
    private static void daysFromNothing(Check c) {
        Twins.range(c, "days", YoungBuyers::new, Twins.of(1, 2000), Twins.of(-4, -6), YoungBuyers::days, n -> n);
        c.due("the day behind 2000 days", after(2000).count(0), 2000);
        c.due("the day behind 1999 days", after(1999).count(0), 1999);
    }

    private static void daysFromSome(Check c) {
        Twins.range(c, "days", Twins::busy, Twins.of(1, 1991), Twins.of(-4, -6), YoungBuyers::days, n -> 9 + n);
    }

    private static void daysAtTheEnd(Check c) {
        c.due("the last day", after(1999).days(1), 2000);
        Twins.refuses(c, "one more from 1999", () -> after(1999), -6, x -> x.days(2));
        Twins.refuses(c, "one more from 2000", () -> after(2000), -6, x -> x.days(1));
        Twins.refuses(c, "none from 2000", () -> after(2000), -4, x -> x.days(0));
        Twins.refuses(c, "a sum that wraps round", () -> after(2000), -6, x -> x.days(Integer.MAX_VALUE - 1999));
        Twins.refuses(c, "a sum that wraps round to 1", () -> after(2000), -4, x -> x.days(-1999));
    }

    /** "A KIND (0 .. 4), a WARD (0 .. 3), a place X, Y (0 .. 60)". */
    private static void shopArguments(Check c) {
        Twins.Town t = Twins::busy;
        Twins.range(c, "kind", t, Twins.of(0, 4), Twins.of(-2, -2), (x, v) -> x.shop(v, 0, 0, 0), v -> 7);
        Twins.range(c, "ward", t, Twins.of(0, 3), Twins.of(-1, -1), (x, v) -> x.shop(0, v, 0, 0), v -> 7);
        Twins.range(c, "x", t, Twins.of(0, 60), Twins.of(-4, -6), (x, v) -> x.shop(0, 0, v, 0), v -> 7);
        Twins.range(c, "y", t, Twins.of(0, 60), Twins.of(-4, -6), (x, v) -> x.shop(0, 0, 0, v), v -> 7);
        for (int ward = 0; ward < 4; ward++) {
            YoungBuyers x = new YoungBuyers();
            x.shop(0, ward, 0, 0);
            x.child(0, -5000);
            x.test(0, 0, 0, 0, 0, 0);
            c.due("it is in ward " + ward, x.wards(ward, (ward + 1) % 4, 0, 2), 1);
        }
    }

    /** "-2 KIND; -1 WARD; -4; -6": the first that fits. */
    private static void shopOrder(Check c) {
        for (int shops = 39; shops <= 40; shops++) {
            int n = shops;
            Twins.Town t = () -> shops(n);
            Twins.refuses(c, "kind, ward, place", t, -2, x -> x.shop(5, 4, -1, 61));
            Twins.refuses(c, "kind, place", t, -2, x -> x.shop(-1, 0, 61, 61));
            Twins.refuses(c, "ward, place", t, -1, x -> x.shop(4, 4, -1, 61));
            Twins.refuses(c, "ward, above", t, -1, x -> x.shop(0, -1, 61, 61));
            Twins.refuses(c, "x below, y above", t, -4, x -> x.shop(0, 0, -1, 61));
            Twins.refuses(c, "x above, y below", t, -4, x -> x.shop(0, 0, 61, -1));
            Twins.refuses(c, "x above", t, -6, x -> x.shop(0, 0, 61, 0));
        }
    }

    /** "SHOPS have numbers from 0 on (40 at most)"; "-6 (40, too)". */
    private static void fortyShops(Check c) {
        c.due("the first", shops(0).shop(0, 0, 0, 0), 0);
        c.due("the 39th", shops(38).shop(0, 0, 0, 0), 38);
        c.due("the 40th", shops(39).shop(0, 0, 0, 0), 39);
        Twins.refuses(c, "a 41st", () -> shops(40), -6, x -> x.shop(0, 0, 0, 0));
        YoungBuyers x = shops(40);
        x.open(3, false);
        c.due("a shut one makes no room", x.shop(0, 0, 0, 0), -6);
        c.due("40 shops", x.count(1), 40);
        c.due("weight of the last one", x.weight(39, 20), 1);
        c.due("no 41st", x.weight(40, 20), -1);
    }

    /** "A WEIGHT (1 .. 20; 1 at first); they are OPEN or SHUT"; "A SHOP, OPEN". */
    private static void aShopAtFirst(Check c) {
        YoungBuyers x = new YoungBuyers();
        x.shop(4, 3, 60, 60);
        c.due("open at first", x.open(0, true), 0);
        c.due("weight at first", x.weight(0, 2), 1);
        x.days(1);
        c.due("one owner at first", x.sell(0), 2);
    }

    private static void weights(Check c) {
        Twins.Town t = Twins::busy;
        Twins.range(c, "w", t, Twins.of(1, 20), Twins.of(-4, -6), (x, v) -> x.weight(4, v), v -> 6);
        Twins.range(c, "w set", t, Twins.of(1, 20), Twins.of(-4, -6), (x, v) -> {
            int was = x.weight(4, v);
            return was < 0 ? was : x.weight(4, 1);
        }, v -> v);
        Twins.range(c, "shop", t, Twins.of(0, 6), Twins.of(-1, -1), (x, v) -> x.weight(v, 9), v -> v < 6 ? 2 + v : 1);
    }

    /** "-1; -4; -6." */
    private static void weightOrder(Check c) {
        Twins.refuses(c, "no shop, below", Twins::busy, -1, x -> x.weight(7, 0));
        Twins.refuses(c, "no shop, above", Twins::busy, -1, x -> x.weight(-1, 21));
    }

    /** "A SHOP is OPEN, or SHUT: 1; 0 if it was so." */
    private static void openOrShut(Check c) {
        Twins.Town t = Twins::busy;
        Twins.range(c, "shut", t, Twins.of(0, 6), Twins.of(-1, -1), (x, v) -> x.open(v, false), v -> v == 5 ? 0 : 1);
        Twins.range(c, "open", t, Twins.of(0, 6), Twins.of(-1, -1), (x, v) -> x.open(v, true), v -> v == 5 ? 1 : 0);
        Twins.leaves(c, "open as it was", t, 0, x -> x.open(0, true));
        Twins.leaves(c, "shut as it was", t, 0, x -> x.open(5, false));
        YoungBuyers x = shops(1);
        c.due("one open", x.count(2), 1);
        c.due("shut", x.open(0, false), 1);
        c.due("none open", x.count(2), 0);
        c.due("open again", x.open(0, true), 1);
        c.due("one open", x.count(2), 1);
    }

    private static void sellAShop(Check c) {
        Twins.range(c, "sell", Twins::busy, Twins.of(0, 6), Twins.of(-1, -1), YoungBuyers::sell, v -> v == 2 ? 3 : 2);
        Twins.refuses(c, "no shop in a new object", YoungBuyers::new, -1, x -> x.sell(0));
        YoungBuyers x = Twins.busy();
        c.due("a shut one", x.sell(5), 2);
        c.due("it stays shut", x.open(5, false), 0);
    }

    /** "-3 it was told or SOLD on this DAY." */
    private static void soldOnThisDay(Check c) {
        Twins.Town told = () -> shops(1);
        Twins.Town nextDay = () -> {
            YoungBuyers x = told.make();
            x.days(1);
            return x;
        };
        Twins.Town sold = () -> {
            YoungBuyers x = nextDay.make();
            x.sell(0);
            return x;
        };
        Twins.refuses(c, "told on this day", told, -3, x -> x.sell(0));
        c.due("a day later", nextDay.make().sell(0), 2);
        Twins.refuses(c, "sold on this day", sold, -3, x -> x.sell(0));
        YoungBuyers x = sold.make();
        x.days(1);
        c.due("a day later", x.sell(0), 3);
    }

    private static YoungBuyers sold(int times, int daysMore) {
        YoungBuyers x = shops(1);
        for (int i = 0; i < times; i++) {
            x.days(1);
            x.sell(0);
        }
        if (daysMore > 0) {
            x.days(daysMore);
        }
        return x;
    }

    /** "-6 it had 6"; told behind -3. */
    private static void sixOwners(Check c) {
        c.due("a fifth", sold(3, 1).sell(0), 5);
        c.due("a sixth", sold(4, 1).sell(0), 6);
        Twins.refuses(c, "a seventh", () -> sold(5, 1), -6, x -> x.sell(0));
        Twins.refuses(c, "a seventh, on this day", () -> sold(5, 0), -3, x -> x.sell(0));
        Twins.refuses(c, "a seventh, later", () -> sold(5, 1990), -6, x -> x.sell(0));
    }

    /** "The first one from the DAY on which it was told; SOLD on a DAY (that of now) the next one." */
    private static void ownersByDays(Check c) {
        YoungBuyers x = new YoungBuyers();
        x.days(2);
        x.shop(0, 0, 0, 0);
        x.child(0, -5000);
        Check.rule(x, "1", 1, 2);
        x.days(3);
        x.sell(0);
        x.days(1);
        x.test(0, 0, 0, 2, 0, 4);
        x.test(0, 0, 0, 4, 0, 0);
        x.test(0, 0, 0, 5, 0, 0);
        x.test(0, 0, 0, 6, 0, 0);
        c.due("not told by 1", x.step(0, 1, 6), -3);
        c.due("the first one on 2", x.step(0, 2, 6), 1);
        c.due("the first one on 4", x.step(0, 4, 6), 1);
        c.due("the next one on 5", x.step(0, 5, 6), 0);
        c.due("the next one on 6", x.step(0, 6, 6), 0);
        c.due("one good test ahead on 4", x.fact(1, 6, 'o'), 1);
        c.due("none of the next one on 5", x.fact(2, 6, 'o'), 0);
        c.due("one of the next one on 6", x.fact(3, 6, 'o'), 1);
    }

    /** OWNERS of one SHOP follow one another; those of another SHOP are others. */
    private static void ownersOfOtherShops(Check c) {
        YoungBuyers x = shops(40);
        x.child(0, -5000);
        Check.rule(x, "1", 1, 0);
        Check.rule(x, "1", 2, 0);
        for (int i = 1; i <= 5; i++) {
            x.days(1);
            x.sell(20);
        }
        x.days(1);
        for (int day = 0; day <= 5; day++) {
            x.test(20, 0, 0, day, 0, 4);
        }
        x.test(20, 0, 0, 6, 0, 4);
        for (int day = 0; day <= 5; day++) {
            c.due("each owner goes up by itself", x.step(20, day, 6), 1);
        }
        c.due("the last one twice", x.step(20, 6, 6), 2);
        for (int shop = 0; shop < 40; shop++) {
            if (shop != 20) {
                c.due("no owner of shop " + shop + " goes up", x.step(shop, 6, 6), 0);
            }
        }
    }
}
