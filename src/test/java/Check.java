import java.nio.charset.StandardCharsets;
import java.util.NoSuchElementException;

/** Counts wrong answers, and feeds texts. */
final class Check {
    private int wrong = 0;
    private int asked = 0;

    void same(String call, long got, long due) {
        asked++;
        if (got != due) {
            wrong++;
            if (wrong <= 40) {
                System.out.println(call + " answered " + got + ", due is " + due);
            }
        }
    }

    void same(String call, boolean got, boolean due) {
        same(call, got ? 1 : 0, due ? 1 : 0);
    }

    interface Call {
        long answer();
    }

    void none(String call, Call asked) {
        long got;
        try {
            got = asked.answer();
        } catch (NoSuchElementException e) {
            same(call, 0, 0);
            return;
        }
        System.out.println(call + " answered " + got + ", due is NoSuchElementException");
        same(call, 1, 0);
    }

    int wrong() {
        return wrong;
    }

    void end() {
        if (asked == 0) {
            System.out.println("nothing was asked");
        }
        System.out.println(asked + " answers looked at, " + wrong + " wrong");
        System.exit(wrong > 0 || asked == 0 ? 1 : 0);
    }

    /** Three longs for the 24 signs from there on; zero bytes where there are none. */
    static long[] pack(byte[] bytes, int from) {
        long[] longs = new long[3];
        for (int i = 0; i < 24; i++) {
            long b = from + i < bytes.length ? bytes[from + i] & 255 : 0;
            longs[i / 8] |= b << (56 - 8 * (i % 8));
        }
        return longs;
    }

    static int feed(RainLoans x, String text) {
        byte[] bytes = text.getBytes(StandardCharsets.ISO_8859_1);
        int there = x.count(7);
        for (int i = 0; i < bytes.length; i += 24) {
            long[] longs = pack(bytes, i);
            there = x.feed(longs[0], longs[1], longs[2]);
        }
        return there;
    }

    static int tell(RainLoans x, String text) {
        feed(x, text);
        return x.custom();
    }

    static RainLoans told(String text) {
        RainLoans x = new RainLoans();
        int fault = tell(x, text);
        if (fault != 0) {
            throw new IllegalStateException("fault " + fault + " in the test's own text: " + text);
        }
        return x;
    }
}
