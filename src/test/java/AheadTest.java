/** Promises 12 to 16: what a loan is worth, the chance that it is due, paying early, weathers that fit. */
public final class AheadTest {
    private static final Check CHECK = new Check();
    private static final String ONE = "hill h dry 2 wet 6;purse a 0;purse b 50;loan a to b coins 10 rate 3 due 1 on h plain;";

    private static void shares() {
        RainLoans x = Check.told(ONE);
        // It rains in 2 of 8: 13 coins by that.
        CHECK.same("worth(0, 1, 0)", x.worth(0, 1, 0), 13);
        CHECK.same("worth(0, 1, 1)", x.worth(0, 1, 1), 4);
        CHECK.same("chance(0, 1, 0)", x.chance(0, 1, 0), 1);
        CHECK.same("chance(0, 1, 1)", x.chance(0, 1, 1), 4);
        // Not dry both days: 1 - 9 / 16.
        CHECK.same("chance(0, 2, 0)", x.chance(0, 2, 0), 7);
        CHECK.same("chance(0, 2, 1)", x.chance(0, 2, 1), 16);
        CHECK.same("worth(0, 2, 0)", x.worth(0, 2, 0), 91);
        CHECK.same("worth(0, 2, 1)", x.worth(0, 2, 1), 16);
        // 1 - (3 / 4) to the 12th.
        CHECK.same("chance(0, 12, 0)", x.chance(0, 12, 0), 16777216 - 531441);
        CHECK.same("chance(0, 12, 1)", x.chance(0, 12, 1), 16777216);
        CHECK.same("nothing has changed", x.count(4) + x.count(6) + x.loan(0, 4), 0);
        x.day(1);
        CHECK.same("worth(0, 1, 0) of one that is paid", x.worth(0, 1, 0), 0);
        CHECK.same("worth(0, 1, 1) of one that is paid", x.worth(0, 1, 1), 1);
        CHECK.same("chance(0, 3, 0) of one that is paid", x.chance(0, 3, 0), 1);
        CHECK.same("chance(0, 3, 1) of one that is paid", x.chance(0, 3, 1), 1);
    }

    private static void behindTheLastDay() {
        RainLoans x = Check.told("hill h dry 2 wet 6;purse a 0;purse b 20;loan a to b coins 30 rate 0 due 1 on h plain;"
                + "loan b to a coins 4 rate 0 due 9 on h dry;");
        x.day(1);
        CHECK.same("loan(0, 7)", x.loan(0, 7), 20);
        CHECK.same("early(1)", x.early(1), true);
        // Behind a wet day in 6 of 8 it rains; what was paid up to now is not counted.
        CHECK.same("worth(0, 1, 0)", x.worth(0, 1, 0), 3);
        CHECK.same("worth(0, 1, 1)", x.worth(0, 1, 1), 1);
        CHECK.same("one that is due", x.chance(0, 1, 0), 1);
    }

    private static void limits() {
        String loan = "purse a 0;purse b 50;loan a to b coins 10 rate 3 due 1 on ha plain;";
        StringBuilder hills = new StringBuilder();
        for (int h = 1; h <= 4; h++) {
            hills.append("hill h").append((char) ('a' + h - 1)).append(" dry 4 wet 4;");
            RainLoans x = Check.told(hills + loan);
            for (int days = -1; days <= 14; days++) {
                boolean far = days < 1 || days * h > 12;
                CHECK.same("worth below", x.worth(0, days, 1) == -1, far);
                CHECK.same("chance below", x.chance(0, days, 1) == -1, far);
                CHECK.same("better", x.better(0, days) == -2, far);
                CHECK.same("fits", x.fits(days, 1, 1) == -1, far);
                CHECK.same("fit", x.fit(days, 1, 50, 0), far ? -1 : 0);
            }
            CHECK.same("many days", x.worth(0, Integer.MAX_VALUE, 0), -1);
            CHECK.same("many days", x.fits(1 << 30, 0, 0), -1);
            CHECK.same("days below 0", x.chance(0, Integer.MIN_VALUE, 0), -1);
        }
        RainLoans x = Check.told(ONE);
        for (int loanNumber : new int[] {-1, 1, Integer.MAX_VALUE}) {
            CHECK.same("worth", x.worth(loanNumber, 1, 0), -1);
            CHECK.same("chance", x.chance(loanNumber, 1, 0), -1);
            CHECK.same("better", x.better(loanNumber, 1), -2);
        }
        for (int what : new int[] {-1, 2}) {
            CHECK.same("worth", x.worth(0, 1, what), -1);
            CHECK.same("chance", x.chance(0, 1, what), -1);
        }
        for (int person : new int[] {-1, 2}) {
            CHECK.same("fits", x.fits(1, person, 0), -1);
            CHECK.same("fit", x.fit(1, person, 0, 0), -1);
        }
        for (int coins : new int[] {-1, 100000}) {
            CHECK.same("fits", x.fits(1, 0, coins), -1);
            CHECK.same("fit", x.fit(1, 0, coins, 0), -1);
        }
        CHECK.same("fits(1, 0, 99999)", x.fits(1, 0, 99999), 0);
        CHECK.same("fit(1, 0, 0, -1)", x.fit(1, 0, 0, -1), -1);
    }

    private static void better() {
        // Nothing falls due within the days: early is worse; then rates make it better.
        RainLoans x = Check.told("hill h dry 8 wet 8;purse a 0;purse b 50;loan a to b coins 10 rate 3 due 2 on h plain;");
        CHECK.same("better(0, 1)", x.better(0, 1), -1);
        CHECK.same("better(0, 2)", x.better(0, 2), 1);
        RainLoans same = Check.told("hill h dry 8 wet 8;purse a 0;purse b 10;loan a to b coins 10 rate 0 due 2 on h plain;");
        CHECK.same("better(0, 1)", same.better(0, 1), -1);
        CHECK.same("better(0, 2)", same.better(0, 2), 0);
        CHECK.same("nothing is paid", same.purse(1), 10);
        CHECK.same("nothing can be undone", same.count(6), 0);
        same.early(0);
        CHECK.same("better(0, 2) of one that is paid", same.better(0, 2), -2);
        RainLoans poor = Check.told("hill h dry 8 wet 8;purse a 0;purse b 9;loan a to b coins 10 rate 0 due 2 on h plain;");
        CHECK.same("better(0, 2) with less", poor.better(0, 2), -2);
    }

    private static void fitsAre(RainLoans x, int coins, int... numbers) {
        CHECK.same("fits(2, 0, " + coins + ")", x.fits(2, 0, coins), numbers.length);
        for (int i = 0; i < numbers.length; i++) {
            CHECK.same("fit(2, 0, " + coins + ", " + i + ")", x.fit(2, 0, coins, i), numbers[i]);
        }
        CHECK.same("fit behind the last", x.fit(2, 0, coins, numbers.length), -1);
    }

    private static void fitting() {
        // Two hills and two days; odds of 0 do not matter.
        RainLoans x = Check.told("hill h dry 0 wet 0;hill k dry 8 wet 8;purse a 0;purse b 50;"
                + "loan a to b coins 10 rate 5 due 2 on k plain;");
        // A flood calls it in with 15; rain on k on both days makes it due with 20.
        fitsAre(x, 20, 0b1010, 0b1110);
        fitsAre(x, 15, 0b0011, 0b0111, 0b1011, 0b1100, 0b1101, 0b1111);
        fitsAre(x, 0, 0b0000, 0b0001, 0b0010, 0b0100, 0b0101, 0b0110, 0b1000, 0b1001);
        fitsAre(x, 7);
        CHECK.same("fits(2, 1, 50)", x.fits(2, 1, 50), 8);
        RainLoans bare = Check.told("purse a 3;");
        CHECK.same("fits without hills", bare.fits(12, 0, 3), 1);
        CHECK.same("fit without hills", bare.fit(12, 0, 3, 0), 0);
        CHECK.same("fit without hills", bare.fit(12, 0, 3, 1), -1);
        CHECK.same("fits without hills", bare.fits(13, 0, 3), -1);
        CHECK.same("fits without hills", bare.fits(1, 0, 4), 0);
        RainLoans wide = Check.told("hill h dry 4 wet 4;purse a 3;");
        CHECK.same("fits(12, 0, 3)", wide.fits(12, 0, 3), 4096);
        CHECK.same("fit(12, 0, 3, 63)", wide.fit(12, 0, 3, 63), 63);
        CHECK.same("fit(12, 0, 3, 4095)", wide.fit(12, 0, 3, 4095), 4095);
        CHECK.same("fit(12, 0, 3, 4096)", wide.fit(12, 0, 3, 4096), -1);
    }

    public static void main(String[] args) {
        shares();
        behindTheLastDay();
        limits();
        better();
        fitting();
        CHECK.end();
    }
}
