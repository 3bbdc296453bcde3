import java.nio.charset.StandardCharsets;

/** Tells every answer that is not as due, and ends a test with exit code 1 if there was one. */
final class Check {
    private int wrong = 0;
    private int asked = 0;

    void due(String call, long got, long want) {
        asked++;
        if (got != want) {
            wrong++;
            if (wrong <= 50) {
                System.out.println(call + " answered " + got + ", due is " + want);
            }
        }
    }

    void due(String call, String got, String want) {
        asked++;
        if (!got.equals(want)) {
            wrong++;
            if (wrong <= 50) {
                System.out.println(call + " told \"" + got + "\", due is \"" + want + "\"");
            }
        }
    }

    void isTrue(String what, boolean holds) {
        due(what, holds ? 1 : 0, 1);
    }

    void end() {
        System.out.println(asked + " answers, " + wrong + " of them not as due");
        if (wrong > 0) {
            System.exit(1);
        }
    }

    boolean failed() {
        return wrong > 0;
    }

    /** 0: back answers; 1: IllegalStateException; 2: IllegalArgumentException. */
    static int backThrows(YoungBuyers x, int what) {
        try {
            x.back(what);
            return 0;
        } catch (IllegalStateException e) {
            return 1;
        } catch (IllegalArgumentException e) {
            return 2;
        }
    }

    /** Feeds a whole text, eight bytes at most at a time. */
    static void feed(YoungBuyers x, String text) {
        byte[] bytes = text.getBytes(StandardCharsets.ISO_8859_1);
        for (int at = 0; at < bytes.length; at += 8) {
            int n = Math.min(8, bytes.length - at);
            long packed = 0;
            for (int i = n - 1; i >= 0; i--) {
                packed = packed << 8 | bytes[at + i] & 255;
            }
            x.feed(n, packed);
        }
    }

    static int rule(YoungBuyers x, String text, int use, int day) {
        feed(x, text);
        return x.rule(use, day);
    }
}
