/** Promises 17 and 18: what bets gain, and which ones gain whatever comes; what expressions are. */
public final class BetsTest {
    private static final Check CHECK = new Check();
    private static final String HILLS = "hill h dry 0 wet 8;hill k dry 4 wet 4;hill m dry 4 wet 4;hill n dry 4 wet 4;";

    /** The weathers in which an expression is not 0, as bits. */
    private static void wins(String expression, int due) {
        RainLoans x = Check.told(HILLS + "bet 0 pays 1 if " + expression + ";");
        int wins = 0;
        for (int wet = 0; wet < 16; wet++) {
            wins |= x.gain(1, wet) << wet;
        }
        CHECK.same(expression, wins, due);
    }

    private static void expressions() {
        wins("first", 0xAAAA);
        wins("second", 0xCCCC);
        wins("third", 0xF0F0);
        wins("fourth", 0xFF00);
        wins("wet", 0xFFFE);
        wins("wet=4", 0x8000);
        wins("wet<1", 0x0001);
        wins("wet=2", 0x1668);
        wins("not first", 0x5555);
        wins("not not 7=1", 0xFFFF);
        wins("7", 0xFFFF);
        wins("0", 0);
        wins("first or second and third", 0xE0E0);
        wins("third and second or first", 0xEAEA);
        wins("first<second", 0x4444);
        wins("first=second", 0x9999);
        wins("first+second=1", 0x6666);
        wins("first-second", 0x6666);
        wins("first-second<0", 0x4444);
        wins("second*third", 0xC0C0);
        wins("1+2*3=7", 0xFFFF);
        wins("(1+2)*3=9", 0xFFFF);
        wins("10-2-3=5", 0xFFFF);
        wins("not 2+1", 0xFFFF);
        wins("not(2+1)", 0);
        wins("not 0*5=5", 0xFFFF);
        wins("2 and 4=1", 0);
        wins("(2 and 4)=1", 0xFFFF);
        wins("(2 or 0)=1", 0xFFFF);
        // Ints wrap: 65536 * 65536 is 0, 46341 * 46341 is below 0.
        wins("256*256*256*256", 0);
        wins("(9268*5+1)*(9268*5+1)<0", 0xFFFF);
        wins("0-1<0", 0xFFFF);
    }

    private static void gains() {
        RainLoans x = Check.told("bet 3 pays 10 if first;hill h dry 0 wet 0;bet 4 pays 8 if not first;bet 999 pays 0 if 1;");
        CHECK.same("gain(0, 1)", x.gain(0, 1), 0);
        CHECK.same("gain(1, 0)", x.gain(1, 0), -3);
        CHECK.same("gain(1, 1)", x.gain(1, 1), 7);
        CHECK.same("gain(2, 0)", x.gain(2, 0), 4);
        CHECK.same("gain(3, 1)", x.gain(3, 1), 3);
        CHECK.same("gain(7, 0)", x.gain(7, 0), -998);
        CHECK.none("gain(8, 0)", () -> x.gain(8, 0));
        CHECK.none("gain(-1, 0)", () -> x.gain(-1, 0));
        CHECK.none("gain(0, 2)", () -> x.gain(0, 2));
        CHECK.none("gain(0, -1)", () -> x.gain(0, -1));
        // It never rains by the odds, but all weathers count.
        CHECK.same("sure(0)", x.sure(0), 1);
        CHECK.same("sure(1)", x.sure(1), 3);
        CHECK.same("sure(2)", x.sure(2), -1);
        CHECK.same("sure(-1)", x.sure(-1), -1);
    }

    private static void sure() {
        RainLoans equal = Check.told("hill h dry 4 wet 4;bet 1 pays 1 if 1;bet 1 pays 3 if 1;bet 2 pays 4 if 1;bet 5 pays 5 if 1;");
        CHECK.same("sure(0)", equal.sure(0), 4);
        CHECK.same("the least as bits", equal.sure(1), 6);
        RainLoans none = Check.told("hill h dry 4 wet 4;bet 5 pays 9 if first;");
        CHECK.same("sure(0)", none.sure(0), 0);
        CHECK.same("sure(1)", none.sure(1), 0);
        RainLoans bare = Check.told("bet 5 pays 9 if wet=0;bet 1 pays 9 if first;");
        CHECK.same("without hills", bare.sure(0), 4);
        CHECK.same("without hills", bare.sure(1), 1);
        CHECK.none("without hills", () -> bare.gain(1, 1));
        StringBuilder eight = new StringBuilder(HILLS);
        for (String bet : new String[] {"first", "not first", "second", "not second", "third", "not third", "fourth",
            "not fourth"}) {
            eight.append("bet 400 pays 999 if ").append(bet).append(";");
        }
        RainLoans x = Check.told(eight.toString());
        CHECK.same("sure(0)", x.sure(0), 4 * 199);
        CHECK.same("sure(1)", x.sure(1), 255);
        CHECK.same("gain(255, 15)", x.gain(255, 15), 4 * 199);
        CHECK.none("gain(256, 0)", () -> x.gain(256, 0));
        CHECK.none("gain(0, 16)", () -> x.gain(0, 16));
    }

    public static void main(String[] args) {
        expressions();
        gains();
        sure();
        CHECK.end();
    }
}
