/** Promises 17 and 18 sentence by sentence: what expressions come to, what bets gain, which are sure. */
public final class BetsEdgesTest {
    private static final Check CHECK = new Check();
    private static final int LEAST = Integer.MIN_VALUE;
    private static final int MOST = Integer.MAX_VALUE;
    private static final String FOUR = Check.times("hill h# dry 4 wet 4;", 4);

    /** In which weathers of four hills an expression is not 0, as bits. */
    private static void wins(String expression, int due) {
        RainLoans x = Check.told(FOUR + "bet 0 pays 1 if " + expression + ";");
        int wins = 0;
        for (int wet = 0; wet < 16; wet++) {
            wins |= x.gain(1, wet) << wet;
        }
        CHECK.same("the weathers of " + expression, wins, due);
    }

    /** What an expression comes to, the same in all weathers: looked for by comparing. */
    private static void comesTo(String expression, String value) {
        wins("(" + expression + ")=(" + value + ")", 0xFFFF);
        wins("(" + expression + ")-(" + value + ")", 0);
    }

    // ---- promise 17: expressions

    private static void facts() {
        wins("first", 0xAAAA);
        wins("second", 0xCCCC);
        wins("third", 0xF0F0);
        wins("fourth", 0xFF00);
        wins("first*2+first=3", 0xAAAA);
        wins("first=1 or first=0", 0xFFFF);
        int[] exactly = {0x0001, 0x0116, 0x1668, 0x6880, 0x8000};
        for (int n = 0; n <= 4; n++) {
            wins("wet=" + n, exactly[n]);
        }
        wins("wet=first+second+third+fourth", 0xFFFF);
        wins("wet<0 or 4<wet", 0);
    }

    private static void factsOfHillsThatAreNot() {
        String[] facts = {"first", "second", "third", "fourth"};
        for (int hills = 0; hills <= 4; hills++) {
            StringBuilder text = new StringBuilder(Check.times("hill h# dry 4 wet 4;", hills));
            for (String fact : facts) {
                text.append("bet 0 pays 1 if ").append(fact).append(';');
            }
            RainLoans x = Check.told(text + "bet 0 pays 1 if wet=" + hills + ";");
            int all = (1 << hills) - 1;
            for (int i = 0; i < 4; i++) {
                CHECK.same(facts[i] + " with " + hills, x.gain(1 << i, all), i < hills ? 1 : 0);
                CHECK.same(facts[i] + " on a dry day", x.gain(1 << i, 0), 0);
            }
            CHECK.same("wet with " + hills, x.gain(16, all), 1);
            CHECK.same("wet on a dry day", x.gain(16, 0), hills == 0 ? 1 : 0);
        }
    }

    private static void oneOrZero() {
        comesTo("not 0", "1");
        comesTo("not 1", "0");
        comesTo("not 2", "0");
        comesTo("not(0-1)", "0");
        comesTo("not not 9999", "1");
        comesTo("2 and 4", "1");
        comesTo("(0-1)and 4", "1");
        comesTo("2 and 0", "0");
        comesTo("0 and 2", "0");
        comesTo("0 and 0", "0");
        comesTo("2 or 0", "1");
        comesTo("0 or 2", "1");
        comesTo("2 or 4", "1");
        comesTo("0 or 0", "0");
        comesTo("1<2", "1");
        comesTo("2<2", "0");
        comesTo("3<2", "0");
        comesTo("2=2", "1");
        comesTo("2=3", "0");
        comesTo("3=2", "0");
    }

    private static void notZeroIsSo() {
        wins("0", 0);
        wins("1", 0xFFFF);
        wins("9999", 0xFFFF);
        wins("0-1", 0xFFFF);
        wins("1-1", 0);
        wins("256*256", 0xFFFF);
        wins("8192*8192*32", 0xFFFF);
    }

    private static void fromTheLeft() {
        comesTo("1 or 1 and 0", "0");
        comesTo("0 and 0 or 1", "1");
        comesTo("0 and 1 or 1 and 1", "1");
        comesTo("1 or 0 and 0 or 0", "0");
        comesTo("9-3-2", "4");
        comesTo("9-3+2", "8");
        comesTo("2+3*4", "14");
        comesTo("2*3+4", "10");
        comesTo("20-2*3*3", "2");
        comesTo("(20-2)*3", "54");
        wins("first<second and second<third", 0);
        wins("0<second+third*2-1", 0xF0F0);
    }

    private static void howFarNotGoes() {
        comesTo("not 0+1", "2");
        comesTo("not 1*5", "0");
        comesTo("not 0*5", "5");
        comesTo("not(0+1)", "0");
        wins("not 0<1", 0);
        wins("not(1<0)", 0xFFFF);
        wins("not 1=0", 0xFFFF);
        wins("not 0 and 0", 0);
        wins("not first and second", 0x4444);
    }

    private static void intsWrap() {
        // 8192 * 8192 * 32 is 2 to the 31st.
        wins("8192*8192*32<0", 0xFFFF);
        wins("0<8192*8192*32-1", 0xFFFF);
        wins("8192*8192*32-1+1<0", 0xFFFF);
        wins("0-8192*8192*32<0", 0xFFFF);
        comesTo("8192*8192*32*2", "0");
        comesTo("256*256*256*256", "0");
        comesTo("9999*9999*9999", "0-(" + longNumber(-(9999 * 9999 * 9999)) + ")");
        comesTo(longNumber(MOST) + "+" + longNumber(MOST), "0-2");
        comesTo("0-2-(" + longNumber(MOST) + ")", longNumber(MOST));
        // Compared as they are, not by a difference that wraps.
        wins("8192*8192*32<1", 0xFFFF);
        wins("8192*8192*32-1<0-2", 0);
        wins("8192*8192*32=0-8192*8192*32", 0xFFFF);
    }

    /** A number above 0 told in numbers of four digits. */
    private static String longNumber(int value) {
        String base = "*5000*2";
        return value / 100000000 + base + base + "+" + value / 10000 % 10000 + base + "+" + value % 10000;
    }

    private static void promise17Expressions() {
        CHECK.promise(17, "facts: 1 if it rains on HILL 0 to 3, on how many", BetsEdgesTest::facts);
        CHECK.promise(17, "facts of HILLS that are not told", BetsEdgesTest::factsOfHillsThatAreNot);
        CHECK.promise(17, "of not, and, or, < and = comes 1 or 0", BetsEdgesTest::oneOrZero);
        CHECK.promise(17, "what is not 0 is so", BetsEdgesTest::notZeroIsSo);
        CHECK.promise(17, "from the left", BetsEdgesTest::fromTheLeft);
        CHECK.promise(17, "not PART: it goes as far as a PART", BetsEdgesTest::howFarNotGoes);
        CHECK.promise(17, "ints wrap", BetsEdgesTest::intsWrap);
    }

    // ---- promise 17: gain

    private static void whichBets() {
        for (int bets = 0; bets <= 8; bets++) {
            RainLoans x = Check.told("bet 1 pays 3 if 1;".repeat(bets));
            for (int set : new int[] {LEAST, -256, -1, 0, 1, 2, 3, 4, 7, 8, 127, 128, 255, 256, 257, 511, MOST}) {
                long due = set >= 0 && set < 1 << bets ? 2 * Integer.bitCount(set) : Check.THROWN;
                CHECK.same("gain(" + set + ", 0) of " + bets, Check.answer(() -> x.gain(set, 0)), due);
            }
        }
    }

    private static void whichWeathers() {
        for (int hills = 0; hills <= 4; hills++) {
            RainLoans x = Check.told(Check.times("hill h# dry 0 wet 0;", hills) + "bet 0 pays 9 if 1;");
            for (int wet : new int[] {LEAST, -16, -1, 0, 1, 2, 3, 4, 7, 8, 15, 16, 17, 31, 32, MOST}) {
                boolean is = wet >= 0 && wet < 1 << hills;
                CHECK.same("gain(1, " + wet + ") of " + hills, Check.answer(() -> x.gain(1, wet)), is ? 9 : Check.THROWN);
                CHECK.same("gain(0, " + wet + ") of " + hills, Check.answer(() -> x.gain(0, wet)), is ? 0 : Check.THROWN);
                CHECK.none("gain(2, " + wet + ") of " + hills, () -> x.gain(2, wet));
            }
        }
    }

    private static void pricesOfAll() {
        RainLoans lost = Check.told("bet 999 pays 999 if 0;".repeat(8));
        CHECK.same("all lost", lost.gain(255, 0), -7992);
        RainLoans won = Check.told("bet 0 pays 999 if 1;".repeat(8));
        CHECK.same("all won", won.gain(255, 0), 7992);
        StringBuilder powers = new StringBuilder("hill h dry 4 wet 4;");
        for (int bet = 0; bet < 8; bet++) {
            powers.append("bet ").append(1 << bet).append(" pays ").append(3 << bet).append(bet % 2 == 0 ? " if first;" : " if 1;");
        }
        RainLoans wet = Check.told(powers.toString());
        RainLoans dry = Check.told(powers.toString());
        for (int set = 0; set < 256; set++) {
            CHECK.same("gain(" + set + ", 1)", wet.gain(set, 1), 2 * set);
            CHECK.same("gain(" + set + ", 0)", dry.gain(set, 0), 3 * (set & 0xAA) - set);
        }
    }

    private static void promise17() {
        CHECK.promise(17, "NoSuchElementException: no such bets", BetsEdgesTest::whichBets);
        CHECK.promise(17, "NoSuchElementException: no such weather", BetsEdgesTest::whichWeathers);
        CHECK.promise(17, "what those pay whose E is not 0, less the prices of all", BetsEdgesTest::pricesOfAll);
        CHECK.promise(17, "asking changes nothing", () -> {
            CHECK.leavesAll("gain(3, 1)", Sample::amid, x -> x.gain(3, 1), 7);
            CHECK.leavesAll("gain(4, 1)", Sample::amid, x -> x.gain(4, 1), Check.THROWN);
            CHECK.leavesAll("gain(1, 4)", Sample::amid, x -> x.gain(1, 4), Check.THROWN);
        });
    }

    // ---- promise 18

    private static void sureIs(String text, int gain, int bets) {
        RainLoans x = Check.told(text);
        CHECK.same("sure(0) of " + text, x.sure(0), gain);
        CHECK.same("sure(1) of " + text, x.sure(1), bets);
    }

    private static void whichOfSure() {
        RainLoans x = Check.told("bet 1 pays 6 if 0;bet 1 pays 6 if 1;");
        for (int what : new int[] {LEAST, -2, -1, 0, 1, 2, 3, MOST}) {
            CHECK.same("sure(" + what + ")", x.sure(what), what == 0 ? 5 : what == 1 ? 2 : -1);
        }
    }

    private static void noneOrAll() {
        sureIs("", 0, 0);
        sureIs("hill h dry 4 wet 4;", 0, 0);
        sureIs("bet 1 pays 0 if 1;".repeat(8), 0, 0);
        sureIs("bet 999 pays 999 if 0;".repeat(8), 0, 0);
        sureIs("bet 0 pays 999 if 1;".repeat(8), 7992, 255);
        sureIs("bet 998 pays 999 if 1;".repeat(8), 8, 255);
        sureIs(FOUR + "bet 0 pays 1 if 1;".repeat(8), 8, 255);
    }

    private static void theLeastOfEqualOnes() {
        sureIs("bet 0 pays 0 if 1;".repeat(8), 0, 0);
        sureIs("bet 999 pays 999 if 1;".repeat(8), 0, 0);
        sureIs("bet 5 pays 5 if 1;bet 1 pays 3 if 1;bet 5 pays 5 if 1;", 2, 2);
        // With the first one either of the others, not both of them.
        sureIs("hill h dry 4 wet 4;bet 1 pays 3 if first;bet 1 pays 3 if not first;bet 1 pays 3 if not first;", 1, 3);
    }

    private static void inAllWeathers() {
        // No odds count: a weather that never comes spoils it.
        sureIs("hill h dry 8 wet 8;bet 1 pays 9 if first;", 0, 0);
        sureIs("hill h dry 0 wet 0;bet 1 pays 9 if not first;", 0, 0);
        sureIs("hill h dry 8 wet 8;bet 1 pays 9 if first;bet 1 pays 3 if not first;", 1, 3);
        // Each of 16 weathers may be the only one that loses.
        for (int wet = 0; wet < 16; wet++) {
            sureIs(FOUR + "bet 1 pays 9 if not(first+second*2+third*4+fourth*8=" + wet + ");", 0, 0);
        }
        sureIs(FOUR + "bet 1 pays 9 if first+second*2+third*4+fourth*8<16;", 8, 1);
        // Without HILLS one weather: nothing rains.
        sureIs("bet 1 pays 9 if first;bet 1 pays 9 if wet=0;", 8, 2);
        sureIs("hill h dry 4 wet 4;bet 1 pays 9 if wet=0;bet 1 pays 9 if second;", 0, 0);
    }

    private static void promise18() {
        CHECK.promise(18, "NONE: another what", BetsEdgesTest::whichOfSure);
        CHECK.promise(18, "the set: the empty one, all", BetsEdgesTest::noneOrAll);
        CHECK.promise(18, "of equal ones the least as bits", BetsEdgesTest::theLeastOfEqualOnes);
        CHECK.promise(18, "the least GAIN in all weathers of one DAY", BetsEdgesTest::inAllWeathers);
        CHECK.promise(18, "asking changes nothing", () -> {
            CHECK.leavesAll("sure(0)", Sample::amid, x -> x.sure(0), 0);
            CHECK.leavesAll("sure(2)", Sample::amid, x -> x.sure(2), -1);
        });
    }

    public static void main(String[] args) {
        promise17Expressions();
        promise17();
        promise18();
        CHECK.end();
    }
}
