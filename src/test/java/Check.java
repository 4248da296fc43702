import java.nio.charset.StandardCharsets;
import java.util.NoSuchElementException;
import java.util.function.Supplier;

/** Counts wrong answers, and feeds texts. */
final class Check {
    /** Stands for the exception that the document names; no call answers it. */
    static final long THROWN = Long.MIN_VALUE;

    private int wrong = 0;
    private int asked = 0;
    private String sentence = "";

    /** A call whose object the test holds itself. */
    interface Call {
        long answer();
    }

    /** A call on any object. */
    interface Asked {
        long of(RainLoans x);
    }

    void same(String call, long got, long due) {
        asked++;
        if (got != due) {
            fail(call + " answered " + told(got) + ", due is " + told(due));
        }
    }

    void same(String call, boolean got, boolean due) {
        same(call, got ? 1 : 0, due ? 1 : 0);
    }

    void same(String call, String got, String due) {
        asked++;
        if (!got.equals(due)) {
            fail(call + ":\n  is  " + got + "\n  due " + due);
        }
    }

    void none(String call, Call asked) {
        same(call, answer(asked), THROWN);
    }

    /** One sentence of a promise, with a test of its own. */
    void promise(int number, String words, Runnable test) {
        int wrongBefore = wrong;
        int askedBefore = asked;
        sentence = "promise " + number + " (" + words + "): ";
        try {
            test.run();
        } catch (RuntimeException e) {
            fail("the test threw " + e + " at " + e.getStackTrace()[0]);
        }
        if (asked == askedBefore) {
            fail("nothing was asked");
        }
        if (wrong != wrongBefore) {
            System.out.println("BROKEN: " + sentence);
        }
        sentence = "";
    }

    /** A call answers so, and behind it all is as in a twin of the object that was never asked. */
    void leavesAll(String call, Supplier<RainLoans> made, Asked asked, long due) {
        RainLoans x = made.get();
        same(call, answer(() -> asked.of(x)), due);
        same(call + " leaves all as it is", Look.whole(x), Look.whole(made.get()));
    }

    /** The fault of this kind at the place of the sign ^ (which is taken out); 0 and no ^: none. */
    void fault(int kind, String marked) {
        int place = marked.indexOf('^');
        String text = place < 0 ? marked : marked.substring(0, place) + marked.substring(place + 1);
        RainLoans x = new RainLoans();
        feed(x, text);
        same("custom() of " + text, x.custom(), kind == 0 ? 0 : kind + 16 * place);
        same("count(7) behind custom()", x.count(7), 0);
    }

    private void fail(String words) {
        wrong++;
        if (wrong <= 40) {
            System.out.println(sentence + words);
        }
    }

    private static String told(long answer) {
        return answer == THROWN ? "NoSuchElementException" : "" + answer;
    }

    /** What a call answers, or THROWN; another exception, one of a class below too, goes on. */
    static long answer(Call call) {
        try {
            return call.answer();
        } catch (NoSuchElementException e) {
            if (e.getClass() != NoSuchElementException.class) {
                throw e;
            }
            return THROWN;
        }
    }

    int wrong() {
        return wrong;
    }

    void end() {
        if (asked == 0) {
            System.out.println("nothing was asked");
        }
        System.out.println(asked + " answers looked at, " + wrong + " wrong");
        System.exit(wrong > 0 || asked == 0 ? 1 : 0);
    }

    /** Three longs for the 24 signs from there on; zero bytes where there are none. */
    static long[] pack(byte[] bytes, int from) {
        long[] longs = new long[3];
        for (int i = 0; i < 24; i++) {
            long b = from + i < bytes.length ? bytes[from + i] & 255 : 0;
            longs[i / 8] |= b << (56 - 8 * (i % 8));
        }
        return longs;
    }

    static int feed(RainLoans x, String text) {
        byte[] bytes = text.getBytes(StandardCharsets.ISO_8859_1);
        int there = bytes.length == 0 ? x.count(7) : 0;
        for (int i = 0; i < bytes.length; i += 24) {
            long[] longs = pack(bytes, i);
            there = x.feed(longs[0], longs[1], longs[2]);
        }
        return there;
    }

    static int tell(RainLoans x, String text) {
        feed(x, text);
        return x.custom();
    }

    static RainLoans told(String text) {
        RainLoans x = new RainLoans();
        int fault = tell(x, text);
        if (fault != 0) {
            throw new IllegalStateException("fault " + fault + " in the test's own text: " + text);
        }
        return x;
    }

    /** The part so many times; # stands for a, b, c and so on. */
    static String times(String part, int n) {
        StringBuilder all = new StringBuilder();
        for (int i = 0; i < n; i++) {
            all.append(part.replace('#', (char) ('a' + i)));
        }
        return all.toString();
    }
}
