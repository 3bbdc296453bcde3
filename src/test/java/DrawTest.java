/** Promises 11 to 13: draw, drawn, back. */
public final class DrawTest {
    public static void main(String[] args) {
        Check c = new Check();
        refusals(c);
        sureOnes(c);
        stretches(c);
        stays(c);
        back(c);
        manyWeights(c);
        c.end();
    }

    private static YoungBuyers withWeights(int... weights) {
        YoungBuyers x = new YoungBuyers();
        for (int i = 0; i < weights.length; i++) {
            x.shop(0, 0, 0, 0);
            x.weight(i, weights[i]);
        }
        return x;
    }

    private static void refusals(Check c) {
        YoungBuyers x = new YoungBuyers();
        c.due("no shop", x.draw(0, -1), -3);
        x.shop(0, 0, 0, 0);
        x.open(0, false);
        c.due("all shut", x.draw(1, 0), -3);
        x.open(0, true);
        c.due("n 0, u above", x.draw(0, 1000), -4);
        c.due("n above, u below", x.draw(41, -1), -4);
        c.due("n above", x.draw(41, 0), -6);
        c.due("u above", x.draw(1, 1000), -6);
        c.due("not drawn yet", x.drawn(9, 9), -5);
        c.due("back before a draw", Check.backThrows(x, 9), 1);
        c.due("n 40, u 999", x.draw(40, 999), 1);
        c.due("no such shop", x.drawn(1, 9), -1);
        c.due("no such shop", x.drawn(-1, 0), -1);
        c.due("what 3", x.drawn(0, 3), -2);
        c.due("what -1", x.drawn(0, -1), -2);
        c.due("back of another what", Check.backThrows(x, 4), 2);
        c.due("back of another what", Check.backThrows(x, -1), 2);
        c.due("back", Check.backThrows(x, 3), 0);
        c.due("exceptions are no refusals", x.count(13), 2);
        c.due("exceptions are no refusals", x.count(12), 2);
    }

    private static void sureOnes(Check c) {
        // 3 of 20: 60/26 is sure; then 2 of 6: 2*3/6 is sure; then 1 of 3.
        YoungBuyers x = withWeights(20, 3, 1, 1, 1);
        c.due("draw(3, 0)", x.draw(3, 0), 3);
        c.due("20 is sure", x.drawn(0, 2), 1);
        c.due("3 is sure in the second round", x.drawn(1, 1), 1);
        c.due("3 is sure in the second round", x.drawn(1, 2), 1);
        c.due("the third part", x.drawn(2, 1), 1);
        c.due("the third part", x.drawn(2, 2), 3);
        c.due("first in the row", x.drawn(2, 0), 1);
        c.due("third in the row", x.drawn(4, 0), 0);
        c.due("as many as are open", x.draw(5, 77), 5);
        for (int i = 0; i < 5; i++) {
            c.due("all are sure", x.drawn(i, 0) * 100 + x.drawn(i, 1) * 10 + x.drawn(i, 2), 111);
        }
    }

    private static void stretches(Check c) {
        YoungBuyers x = withWeights(1, 1, 1, 1);
        // 2 of 4: stretches of a half; 500 by 1000 is the beginning of the second and of the fourth.
        c.due("draw(2, 499)", x.draw(2, 499), 2);
        c.due("first", x.drawn(0, 0), 1);
        c.due("third", x.drawn(2, 0), 1);
        c.due("draw(2, 500)", x.draw(2, 500), 2);
        c.due("not first", x.drawn(0, 0), 0);
        c.due("second", x.drawn(1, 0), 1);
        c.due("fourth", x.drawn(3, 0), 1);
        c.due("parts", x.drawn(3, 1) * 10 + x.drawn(3, 2), 12);
        x.open(1, false);
        c.due("draw(1, 333)", x.draw(1, 333), 1);
        c.due("first of three", x.drawn(0, 0), 1);
        c.due("draw(1, 334)", x.draw(1, 334), 1);
        c.due("second of three", x.drawn(2, 0), 1);
        c.due("shut: 0 above", x.drawn(1, 1), 0);
        c.due("shut: 1 below", x.drawn(1, 2), 1);
    }

    private static void stays(Check c) {
        YoungBuyers x = withWeights(2, 4);
        x.draw(1, 0);
        x.shop(0, 0, 0, 0);
        x.weight(0, 20);
        x.open(0, false);
        c.due("drawn stays", x.drawn(0, 0), 1);
        c.due("parts stay", x.drawn(0, 1) * 10 + x.drawn(0, 2), 13);
        c.due("told later: 0 above", x.drawn(2, 1), 0);
        c.due("told later: 1 below", x.drawn(2, 2), 1);
        c.due("a refused draw", x.draw(0, 0), -4);
        c.due("leaves the old one", x.drawn(0, 0), 1);
        c.due("count(9)", x.count(9), 1);
        x.draw(2, 0);
        c.due("the new one counts", x.drawn(0, 0), 0);
        c.due("count(9)", x.count(9), 2);
    }

    private static void back(Check c) {
        YoungBuyers x = withWeights(3, 2, 2, 1);
        x.child(0, -5000);
        // 2 of 8: 3/4, 1/2, 1/2, 1/4; the points 0.5 and 1.5 are in the stretches of 0 and 2.
        c.due("draw(2, 500)", x.draw(2, 500), 2);
        c.due("0 is drawn", x.drawn(0, 0), 1);
        c.due("2 is drawn", x.drawn(2, 0), 1);
        c.due("of all: 4/3 and 2", x.back(2), 10);
        c.due("of all: 4/3 and 2", x.back(3), 3);
        c.due("none sold: above", x.back(0), 0);
        c.due("none sold: below", x.back(1), 1);
        x.test(1, 0, 0, 0, 9, 4);
        c.due("one not drawn sold", x.back(0), 0);
        x.test(0, 0, 0, 0, 9, 4);
        c.due("0 sold: above", x.back(0), 4);
        c.due("0 sold: below", x.back(1), 3);
        x.test(0, 0, 0, 0, 9, 0);
        c.due("the latest did not sell", x.back(0), 0);
        x.appeal(2);
        c.due("the latest that counts sold", x.back(0), 4);
        Check.rule(x, "h>9", 0, 0);
        c.due("but is not good", x.back(0), 0);
        x.test(2, 0, 0, 0, 10, 4);
        x.test(2, 0, 0, 0, 9, 0);
        c.due("the latest good one sold", x.back(0), 2);
        x.open(2, false);
        c.due("shut, but was drawn", x.back(0), 2);
    }

    /** Each weight once: the common denominator of all of them. */
    private static void manyWeights(Check c) {
        int[] weights = new int[40];
        for (int i = 0; i < 40; i++) {
            weights[i] = i / 2 + 1;
        }
        for (int n = 1; n <= 40; n++) {
            YoungBuyers x = withWeights(weights);
            for (int u = 0; u < 1000; u += 333) {
                c.due("draw of " + n, x.draw(n, u), n);
                c.isTrue("back is a fraction", x.back(3) > 0 && x.back(2) >= x.back(3));
            }
        }
    }
}
