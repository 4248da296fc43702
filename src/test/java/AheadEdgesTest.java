/** Promises 12 to 16 sentence by sentence: all weathers of some days ahead. */
public final class AheadEdgesTest {
    private static final Check CHECK = new Check();
    private static final int LEAST = Integer.MIN_VALUE;
    private static final int MOST = Integer.MAX_VALUE;
    private static final int[] DAYS = {LEAST, -12, -1, 0, 1, 2, 3, 4, 5, 6, 7, 11, 12, 13, 14, 1 << 30, MOST};

    private static String hill(int dry, int wet) {
        return "hill h dry " + dry + " wet " + wet + ";";
    }

    private static String lent(String who, int coins, int rate, int due, String on) {
        return "loan " + who + " coins " + coins + " rate " + rate + " due " + due + " on " + on + ";";
    }

    private static void worthIs(RainLoans x, int loan, int days, long above, long below) {
        CHECK.same("worth(" + loan + ", " + days + ", 0)", x.worth(loan, days, 0), above);
        CHECK.same("worth(" + loan + ", " + days + ", 1)", x.worth(loan, days, 1), below);
    }

    private static void chanceIs(RainLoans x, int loan, int days, long above, long below) {
        CHECK.same("chance(" + loan + ", " + days + ", 0)", x.chance(loan, days, 0), above);
        CHECK.same("chance(" + loan + ", " + days + ", 1)", x.chance(loan, days, 1), below);
    }

    private interface Asked {
        long of(RainLoans x, int days);
    }

    /** Asks for each number of days with 1 to 4 hills: the one is due or, ahead of too many, the other. */
    private static void daysAhead(String call, Asked asked, long near, long far) {
        for (int hills = 1; hills <= 4; hills++) {
            RainLoans x = Check.told(Check.times("hill h# dry 8 wet 8;", hills) + "purse a 0;purse b 5;"
                    + lent("a to b", 5, 0, 1, "ha plain"));
            for (int days : DAYS) {
                boolean can = days >= 1 && days <= 12 / hills;
                CHECK.same(call + " " + days + " DAYS with " + hills, asked.of(x, days), can ? near : far);
            }
        }
    }

    // ---- promise 12

    private static void whichWorth() {
        for (int loans : new int[] {1, 10}) {
            RainLoans x = Check.told(hill(8, 8) + "purse a 0;purse b 99;" + lent("a to b", 5, 0, 1, "h plain").repeat(loans));
            for (int loan : new int[] {LEAST, -1, 0, 9, 10, MOST}) {
                boolean is = loan >= 0 && loan < loans;
                CHECK.same("worth(" + loan + ", 1, 0) of " + loans, x.worth(loan, 1, 0), is ? 5 : -1);
                CHECK.same("worth(" + loan + ", 1, 1) of " + loans, x.worth(loan, 1, 1), is ? 1 : -1);
                CHECK.same("chance(" + loan + ", 1, 0) of " + loans, x.chance(loan, 1, 0), is ? 1 : -1);
                CHECK.same("chance(" + loan + ", 1, 1) of " + loans, x.chance(loan, 1, 1), is ? 1 : -1);
            }
        }
    }

    private static void whichOfWorth() {
        RainLoans x = Check.told(hill(4, 4) + "purse a 0;purse b 99;" + lent("a to b", 5, 0, 1, "h plain"));
        for (int what : new int[] {LEAST, -2, -1, 0, 1, 2, 3, MOST}) {
            CHECK.same("worth(0, 1, " + what + ")", x.worth(0, 1, what), what == 0 ? 5 : what == 1 ? 2 : -1);
        }
    }

    private static void lowestTerms() {
        // 0 coins, whole ones, halves, and eighths to the 12th: (8^12 - 7^12) * 999 / 8^12.
        worthIs(Check.told(hill(0, 8) + "purse a 0;purse b 99;" + lent("a to b", 5, 0, 1, "h plain")), 0, 12, 0, 1);
        worthIs(Check.told(hill(8, 0) + "purse a 0;purse b 99;" + lent("a to b", 5, 2, 1, "h plain")), 0, 12, 7, 1);
        worthIs(Check.told(hill(4, 0) + "purse a 0;purse b 99;" + lent("a to b", 5, 0, 1, "h plain")), 0, 1, 5, 2);
        worthIs(Check.told(hill(4, 0) + "purse a 0;purse b 99;" + lent("a to b", 6, 0, 1, "h plain")), 0, 1, 3, 1);
        worthIs(Check.told(hill(2, 0) + "purse a 0;purse b 99;" + lent("a to b", 6, 0, 1, "h plain")), 0, 1, 3, 2);
        worthIs(Check.told(hill(1, 0) + "purse a 0;purse b 999;" + lent("a to b", 999, 0, 1, "h plain")), 0, 12,
                999L * 54878189535L, 68719476736L);
        String poor = "hill k dry 1 wet 1;hill m dry 1 wet 1;hill n dry 1 wet 1;purse a 0;purse b 999;";
        worthIs(Check.told(hill(1, 1) + poor + lent("a to b", 999, 0, 9, "h plain")), 0, 1, 999, 4096);
        worthIs(Check.told(hill(1, 1) + poor + lent("a to b", 1, 0, 9, "h hidden")), 0, 3, 0, 1);
    }

    private static void coinsItPays() {
        // As far as the purses go; the bail's coins count; what was paid up to now does not.
        RainLoans x = Check.told(hill(8, 8) + "purse a 0;purse b 3;purse c 4;" + lent("a to b", 9, 0, 1, "h plain bail c"));
        worthIs(x, 0, 1, 7, 1);
        worthIs(x, 0, 12, 7, 1);
        x.day(1);
        CHECK.same("loan(0, 7)", x.loan(0, 7), 7);
        worthIs(x, 0, 1, 0, 1);
        RainLoans paid = Check.told(hill(8, 8) + "purse a 0;purse b 30;" + lent("a to b", 9, 0, 9, "h plain"));
        worthIs(paid, 0, 8, 0, 1);
        worthIs(paid, 0, 9, 9, 1);
        paid.early(0);
        worthIs(paid, 0, 9, 0, 1);
    }

    private static void asItIs() {
        RainLoans x = Check.told(hill(1, 7) + "purse a 0;purse b 30;" + lent("a to b", 4, 2, 3, "h plain"));
        chanceIs(x, 0, 1, 0, 1);
        x.day(1);
        x.day(1);
        chanceIs(x, 0, 1, 7, 8);
        worthIs(x, 0, 1, 10 * 7 / 2, 4);
        x.day(0);
        chanceIs(x, 0, 1, 1, 8);
        worthIs(x, 0, 1, 5, 4);
        // Behind a dry day dry again, then rain: 7/8 * 1/8 more.
        chanceIs(x, 0, 2, 15, 64);
    }

    private static void eachHillByItself() {
        RainLoans x = Check.told("hill h dry 3 wet 0;hill k dry 5 wet 0;purse a 0;purse b 30;" + lent("a to b", 1, 0, 1, "h both")
                + lent("a to b", 1, 0, 1, "h plain") + lent("a to b", 1, 0, 1, "k plain") + lent("a to b", 1, 0, 1, "k dry"));
        chanceIs(x, 0, 1, 15, 64);
        // Alone, or with both: a FLOOD is rain on it anyway.
        chanceIs(x, 1, 1, 3, 8);
        chanceIs(x, 2, 1, 5, 8);
        // Dry on k, or a FLOOD.
        chanceIs(x, 3, 1, 24 + 15, 64);
        x.day(2);
        // Now k is behind a wet day, h behind a dry one.
        chanceIs(x, 0, 1, 0, 1);
        chanceIs(x, 1, 1, 3, 8);
    }

    private static void promise12() {
        CHECK.promise(12, "of a loan; NONE: others", AheadEdgesTest::whichWorth);
        CHECK.promise(12, "what 0: above, 1: below; NONE: others", AheadEdgesTest::whichOfWorth);
        CHECK.promise(12, "NONE: too many DAYS; HILLS times n 12 at most, n 1 to 12", () -> {
            daysAhead("worth above", (x, days) -> x.worth(0, days, 0), 5, -1);
            daysAhead("worth below", (x, days) -> x.worth(0, days, 1), 1, -1);
        });
        CHECK.promise(12, "in lowest terms", AheadEdgesTest::lowestTerms);
        CHECK.promise(12, "the coins that it pays, those paid up to now not counted", AheadEdgesTest::coinsItPays);
        CHECK.promise(12, "all is gone on with as it is", AheadEdgesTest::asItIs);
        CHECK.promise(12, "each HILL by itself, by what it was the day ahead", AheadEdgesTest::eachHillByItself);
        CHECK.promise(12, "asking changes nothing", () -> {
            CHECK.leavesAll("worth(2, 6, 0)", Sample::amid, x -> x.worth(2, 6, 0), 0);
            CHECK.leavesAll("worth(0, 7, 0)", Sample::amid, x -> x.worth(0, 7, 0), -1);
        });
    }

    // ---- promise 13

    private static void whichOfChance() {
        RainLoans x = Check.told(hill(4, 4) + "purse a 0;purse b 99;" + lent("a to b", 5, 0, 1, "h plain"));
        for (int what : new int[] {LEAST, -2, -1, 0, 1, 2, 3, MOST}) {
            CHECK.same("chance(0, 1, " + what + ")", x.chance(0, 1, what), what == 0 ? 1 : what == 1 ? 2 : -1);
        }
    }

    private static void dueOrPaid() {
        RainLoans x = Check.told(hill(1, 1) + "purse a 0;purse b 5;purse c 1;" + lent("a to b", 9, 0, 1, "h plain")
                + lent("a to b", 5, 0, 9, "h plain") + lent("a to c", 1, 0, 9, "h plain"));
        chanceIs(x, 0, 1, 1, 8);
        chanceIs(x, 0, 12, 54878189535L, 68719476736L);
        chanceIs(x, 1, 8, 0, 1);
        // Rain on each of 9 days.
        chanceIs(x, 1, 9, 1, 134217728);
        x.day(1);
        CHECK.same("loan 0 is DUE", x.loan(0, 3), 1);
        chanceIs(x, 0, 1, 1, 1);
        chanceIs(x, 0, 12, 1, 1);
        x.early(2);
        CHECK.same("loan 2 is PAID", x.loan(2, 3), 2);
        chanceIs(x, 2, 1, 1, 1);
        chanceIs(x, 2, 12, 1, 1);
    }

    private static void floodsAhead() {
        RainLoans x = Check.told(Check.times("hill h# dry 4 wet 4;", 4) + "purse a 0;purse b 0;" + lent("a to b", 9, 0, 9, "ha plain")
                + lent("a to b", 9, 0, 9, "ha hidden"));
        chanceIs(x, 0, 1, 1, 16);
        chanceIs(x, 0, 3, 4096 - 15 * 15 * 15, 4096);
        chanceIs(x, 1, 3, 0, 1);
    }

    private static void promise13() {
        CHECK.promise(13, "of a loan; NONE: others", AheadEdgesTest::whichWorth);
        CHECK.promise(13, "what 0: above, 1: below; NONE: others", AheadEdgesTest::whichOfChance);
        CHECK.promise(13, "NONE: too many DAYS; HILLS times n 12 at most, n 1 to 12", () -> {
            daysAhead("chance above", (x, days) -> x.chance(0, days, 0), 1, -1);
            daysAhead("chance below", (x, days) -> x.chance(0, days, 1), 1, -1);
        });
        CHECK.promise(13, "that it is DUE or PAID then; never, surely", AheadEdgesTest::dueOrPaid);
        CHECK.promise(13, "by a FLOOD, too", AheadEdgesTest::floodsAhead);
        CHECK.promise(13, "asking changes nothing", () -> {
            CHECK.leavesAll("chance(1, 6, 0)", Sample::amid, x -> x.chance(1, 6, 0), 1);
            CHECK.leavesAll("chance(0, 7, 0)", Sample::amid, x -> x.chance(0, 7, 0), -1);
        });
    }

    // ---- promise 14

    private static void whichBetter() {
        for (int loans : new int[] {1, 10}) {
            RainLoans x = Check.told(hill(0, 0) + "purse a 0;purse b 99;" + lent("a to b", 5, 0, 1, "h plain").repeat(loans));
            for (int loan : new int[] {LEAST, -1, 0, 9, 10, MOST}) {
                CHECK.same("better(" + loan + ", 1) of " + loans, x.better(loan, 1), loan >= 0 && loan < loans ? -1 : -2);
            }
        }
    }

    private static void cannotBePaid() {
        for (int coins = 4; coins <= 6; coins++) {
            RainLoans x = Check.told(hill(0, 0) + "purse a 0;purse b " + coins + ";" + lent("a to b", 5, 0, 1, "h plain"));
            CHECK.same("better(0, 1) with " + coins, x.better(0, 1), coins < 5 ? -2 : -1);
        }
        RainLoans paid = Check.told(hill(8, 8) + "purse a 0;purse b 50;" + lent("a to b", 5, 0, 1, "h plain").repeat(2));
        paid.early(0);
        CHECK.same("PAID by hand", paid.better(0, 1), -2);
        CHECK.same("not PAID", paid.better(1, 1), 0);
        paid.day(1);
        CHECK.same("PAID on a DAY", paid.better(1, 1), -2);
    }

    private static void betterOrNot() {
        // Rain in half of all cases: in a day 5 + rate coins by half, or 5 now.
        for (int rate = 0; rate <= 9; rate++) {
            RainLoans x = Check.told(hill(4, 4) + "purse a 0;purse b 50;" + lent("a to b", 5, rate, 1, "h plain"));
            CHECK.same("better(0, 1) with " + rate, x.better(0, 1), Integer.compare(5 + rate, 10));
        }
        // Rain in one of 8, or in seven of 8, with as many weathers of each sort.
        RainLoans seldom = Check.told(hill(1, 1) + "purse a 0;purse b 50;" + lent("a to b", 5, 9, 1, "h plain"));
        CHECK.same("14 coins in one of 8", seldom.better(0, 1), -1);
        RainLoans often = Check.told(hill(7, 7) + "purse a 0;purse b 50;" + lent("a to b", 5, 1, 1, "h plain"));
        CHECK.same("6 coins in seven of 8", often.better(0, 1), 1);
        // A sure day: as much now as then, and one coin more or less.
        for (int rate = 0; rate <= 1; rate++) {
            RainLoans x = Check.told(hill(8, 8) + "purse a 0;purse b 50;" + lent("a to b", 5, rate, 2, "h plain"));
            CHECK.same("better(0, 1) with " + rate, x.better(0, 1), -1);
            CHECK.same("better(0, 2) with " + rate, x.better(0, 2), rate);
            CHECK.same("better(0, 12) with " + rate, x.better(0, 12), rate);
        }
        // It must be paid but for one weather of 8^12: that is less by as little as can be.
        RainLoans rare = Check.told(hill(1, 1) + "purse a 0;purse b 9;" + lent("a to b", 1, 0, 1, "h dry"));
        CHECK.same("better(0, 12) but for twelve wet days", rare.better(0, 12), -1);
        RainLoans sure = Check.told(hill(0, 1) + "purse a 0;purse b 9;" + lent("a to b", 1, 0, 1, "h dry"));
        CHECK.same("better(0, 12) if no wet day comes", sure.better(0, 12), 0);
    }

    private static void theDebtorsPurse() {
        // What b pays early comes back from a, who has nothing else to pay it with; else b's bail pays for b.
        RainLoans back = Check.told(hill(8, 8) + "purse a 0;purse b 5;" + lent("a to b", 5, 0, 9, "h plain")
                + lent("b to a", 5, 0, 1, "h plain"));
        CHECK.same("it comes back", back.better(0, 1), 0);
        RainLoans bail = Check.told(hill(8, 8) + "purse a 0;purse b 5;purse c 9;" + lent("a to b", 5, 4, 1, "h plain bail c"));
        CHECK.same("the purse is empty both ways, whatever the bail loses", bail.better(0, 1), 0);
        RainLoans due = Check.told(hill(8, 8) + "purse a 0;purse b 3;purse c 9;" + lent("a to b", 5, 1, 1, "h plain")
                + lent("b to c", 9, 0, 9, "h plain"));
        due.day(1);
        due.early(1);
        CHECK.same("a DUE one that grows by a coin", due.better(0, 1), 1);
    }

    private static void whateverWasAsked() {
        // b has 50 or 40 then, or 45: as much in the mean.
        RainLoans x = Check.told(hill(4, 4) + "purse a 0;purse b 50;" + lent("a to b", 5, 5, 1, "h plain"));
        for (int coins : new int[] {45, 50, 40, 0}) {
            CHECK.same("fits(1, 1, " + coins + ")", x.fits(1, 1, coins), coins == 50 || coins == 40 ? 1 : 0);
            CHECK.same("better(0, 1) behind it", x.better(0, 1), 0);
            worthIs(x, 0, 1, 5, 1);
            chanceIs(x, 0, 1, 1, 2);
            CHECK.same("fit(1, 1, 40, 0)", x.fit(1, 1, 40, 0), 1);
        }
    }

    private static void promise14() {
        CHECK.promise(14, "whatever was asked before", AheadEdgesTest::whateverWasAsked);
        CHECK.promise(14, "of a loan; -2: others", AheadEdgesTest::whichBetter);
        CHECK.promise(14, "-2: too many DAYS; HILLS times n 12 at most, n 1 to 12",
                () -> daysAhead("better", (x, days) -> x.better(0, days), 0, -2));
        CHECK.promise(14, "-2: it can't be paid EARLY", AheadEdgesTest::cannotBePaid);
        CHECK.promise(14, "greater: 1, as great: 0, less: -1", AheadEdgesTest::betterOrNot);
        CHECK.promise(14, "the mean of the debtor's purse", AheadEdgesTest::theDebtorsPurse);
        CHECK.promise(14, "asking changes nothing", () -> {
            CHECK.leavesAll("better(0, 1)", Sample::amid, x -> x.better(0, 1), -1);
            CHECK.leavesAll("better(1, 1)", Sample::amid, x -> x.better(1, 1), -2);
        });
    }

    // ---- promises 15 and 16

    private static void whoFits() {
        for (int persons : new int[] {0, 1, 6}) {
            RainLoans x = Check.told(hill(4, 4) + Check.times("purse # 7;", persons));
            for (int person : new int[] {LEAST, -1, 0, 5, 6, MOST}) {
                boolean is = person >= 0 && person < persons;
                CHECK.same("fits(1, " + person + ", 7) of " + persons, x.fits(1, person, 7), is ? 2 : -1);
                CHECK.same("fits(1, " + person + ", 8) of " + persons, x.fits(1, person, 8), is ? 0 : -1);
                CHECK.same("fit(1, " + person + ", 7, 1) of " + persons, x.fit(1, person, 7, 1), is ? 1 : -1);
            }
        }
    }

    private static void whichCoins() {
        RainLoans x = Check.told(hill(4, 4) + "purse a 0;purse b 9999;");
        for (int coins : new int[] {LEAST, -1, 0, 1, 9998, 9999, 10000, 99998, 99999, 100000, MOST}) {
            boolean is = coins >= 0 && coins <= 99999;
            CHECK.same("fits(1, 0, " + coins + ")", x.fits(1, 0, coins), !is ? -1 : coins == 0 ? 2 : 0);
            CHECK.same("fits(1, 1, " + coins + ")", x.fits(1, 1, coins), !is ? -1 : coins == 9999 ? 2 : 0);
            CHECK.same("fit(1, 1, " + coins + ", 0)", x.fit(1, 1, coins, 0), coins == 9999 ? 0 : -1);
        }
    }

    private static void withoutHills() {
        RainLoans x = Check.told("purse a 3;");
        for (int days : DAYS) {
            boolean can = days >= 1 && days <= 12;
            CHECK.same("fits(" + days + ", 0, 3)", x.fits(days, 0, 3), can ? 1 : -1);
            CHECK.same("fits(" + days + ", 0, 4)", x.fits(days, 0, 4), can ? 0 : -1);
            CHECK.same("fit(" + days + ", 0, 3, 0)", x.fit(days, 0, 3, 0), can ? 0 : -1);
            CHECK.same("fit(" + days + ", 0, 3, 1)", x.fit(days, 0, 3, 1), -1);
        }
    }

    private static void oddsAboveZeroOrNot() {
        for (int odds : new int[] {0, 4, 8}) {
            RainLoans x = Check.told(hill(odds, 8 - odds) + "purse a 0;purse b 9;" + lent("a to b", 5, 0, 2, "h plain"));
            CHECK.same("fits(2, 0, 5)", x.fits(2, 0, 5), 1);
            CHECK.same("fits(2, 0, 0)", x.fits(2, 0, 0), 3);
            CHECK.same("fits(12, 0, 0)", x.fits(12, 0, 0), 13);
            CHECK.same("fits(12, 0, 5)", x.fits(12, 0, 5), 4096 - 13);
        }
    }

    private static void justSoMuch() {
        RainLoans x = Check.told(hill(4, 4) + "purse a 0;purse b 50;" + lent("a to b", 5, 1, 1, "h dry")
                + lent("a to b", 7, 1, 2, "h plain"));
        // A dry day brings 6 coins, two wet ones 9.
        int[] coins = {6, 6, 6, 9};
        for (int c = 0; c <= 12; c++) {
            int many = 0;
            for (int wet = 0; wet < 4; wet++) {
                if (coins[wet] == c) {
                    CHECK.same("fit(2, 0, " + c + ", " + many + ")", x.fit(2, 0, c, many), wet);
                    many++;
                }
            }
            CHECK.same("fits(2, 0, " + c + ")", x.fits(2, 0, c), many);
            CHECK.same("fit(2, 0, " + c + ", " + many + ")", x.fit(2, 0, c, many), -1);
        }
    }

    private static void firstDayLowest() {
        RainLoans x = Check.told("hill h dry 4 wet 4;hill k dry 4 wet 4;hill m dry 4 wet 4;purse a 0;purse b 9;"
                + lent("a to b", 1, 0, 2, "h hidden"));
        // Rain on h on both days: bits 0 and 3.
        int many = 0;
        for (int number = 0; number < 64; number++) {
            if ((number & 9) == 9) {
                CHECK.same("fit(2, 0, 1, " + many + ")", x.fit(2, 0, 1, many), number);
                many++;
            }
        }
        CHECK.same("fits(2, 0, 1)", x.fits(2, 0, 1), many);
        RainLoans first = Check.told("hill h dry 4 wet 4;hill k dry 4 wet 4;purse a 0;purse b 9;" + lent("a to b", 1, 1, 1, "h plain")
                + lent("a to b", 1, 3, 1, "k plain"));
        // 2 coins of loan 0 by rain on h, 4 of loan 1 by rain on k; a FLOOD makes no difference.
        int[] six = {3, 6, 7, 9, 11, 12, 13, 14, 15};
        CHECK.same("fits(2, 0, 6)", first.fits(2, 0, 6), six.length);
        for (int i = 0; i < six.length; i++) {
            CHECK.same("fit(2, 0, 6, " + i + ")", first.fit(2, 0, 6, i), six[i]);
        }
        int[] two = {1, 4, 5};
        for (int i = 0; i < two.length; i++) {
            CHECK.same("fit(2, 0, 2, " + i + ")", first.fit(2, 0, 2, i), two[i]);
        }
    }

    private static void whichFit() {
        RainLoans all = Check.told(hill(4, 4) + "purse a 3;");
        for (int i : new int[] {LEAST, -1, 0, 1, 62, 63, 64, 65, 2047, 2048, 4094, 4095, 4096, MOST}) {
            CHECK.same("fit(12, 0, 3, " + i + ")", all.fit(12, 0, 3, i), i >= 0 && i < 4096 ? i : -1);
            CHECK.same("fit(12, 0, 4, " + i + ")", all.fit(12, 0, 4, i), -1);
        }
        RainLoans four = Check.told(Check.times("hill # dry 4 wet 4;", 4) + "purse x 3;");
        CHECK.same("fits(3, 0, 3)", four.fits(3, 0, 3), 4096);
        CHECK.same("fit(3, 0, 3, 4095)", four.fit(3, 0, 3, 4095), 4095);
        CHECK.same("fit(3, 0, 3, 4096)", four.fit(3, 0, 3, 4096), -1);
        CHECK.same("fits(1, 0, 3)", four.fits(1, 0, 3), 16);
        CHECK.same("fit(1, 0, 3, 15)", four.fit(1, 0, 3, 15), 15);
        CHECK.same("fit(1, 0, 3, 16)", four.fit(1, 0, 3, 16), -1);
    }

    private static void lastOneOnly() {
        RainLoans x = Check.told(hill(4, 4) + "purse a 0;purse b 999;" + lent("a to b", 1, 0, 9, "h plain"));
        CHECK.same("fits(9, 0, 1)", x.fits(9, 0, 1), 1);
        CHECK.same("fit(9, 0, 1, 0)", x.fit(9, 0, 1, 0), 511);
        CHECK.same("fit(9, 0, 1, 1)", x.fit(9, 0, 1, 1), -1);
        // 220 + 66 + 12 + 1: nine, ten, eleven or twelve wet days of twelve.
        CHECK.same("fits(12, 0, 1)", x.fits(12, 0, 1), 299);
        CHECK.same("fit(12, 0, 1, 0)", x.fit(12, 0, 1, 0), 511);
        CHECK.same("fit(12, 0, 1, 1)", x.fit(12, 0, 1, 1), 767);
        CHECK.same("fit(12, 0, 1, 298)", x.fit(12, 0, 1, 298), 4095);
        CHECK.same("fit(12, 0, 1, 299)", x.fit(12, 0, 1, 299), -1);
        CHECK.same("asked again with less", x.fits(8, 0, 1), 0);
    }

    private static void promises15And16() {
        CHECK.promise(15, "of a PERSON; NONE: others", AheadEdgesTest::whoFits);
        CHECK.promise(15, "coins 0 to 99999", AheadEdgesTest::whichCoins);
        CHECK.promise(15, "NONE: too many DAYS; HILLS times n 12 at most, n 1 to 12",
                () -> daysAhead("fits", (x, days) -> x.fits(days, 1, 4), 0, -1));
        CHECK.promise(15, "without HILLS one weather", AheadEdgesTest::withoutHills);
        CHECK.promise(15, "odds above 0 or not", AheadEdgesTest::oddsAboveZeroOrNot);
        CHECK.promise(15, "just so much", AheadEdgesTest::justSoMuch);
        CHECK.promise(16, "the first DAY the lowest bits, so many as HILLS; the least first", AheadEdgesTest::firstDayLowest);
        CHECK.promise(16, "NONE: likewise", () -> {
            daysAhead("fit", (x, days) -> x.fit(days, 1, 5, 0), 0, -1);
            whoFits();
            whichCoins();
        });
        CHECK.promise(16, "the i-th of these; NONE: none such", AheadEdgesTest::whichFit);
        CHECK.promise(16, "the i-th of a few among many", AheadEdgesTest::lastOneOnly);
        CHECK.promise(16, "asking changes nothing", () -> {
            CHECK.leavesAll("fits(6, 0, 5)", Sample::amid, x -> Math.min(1, x.fits(6, 0, 5)), 1);
            CHECK.leavesAll("fits(7, 0, 5)", Sample::amid, x -> x.fits(7, 0, 5), -1);
            CHECK.leavesAll("fit(1, 0, 5, 0)", Sample::amid, x -> x.fit(1, 0, 5, 0), 0);
            CHECK.leavesAll("fit(1, 0, 5, 5)", Sample::amid, x -> x.fit(1, 0, 5, 5), -1);
        });
    }

    public static void main(String[] args) {
        promise12();
        promise13();
        promise14();
        promises15And16();
        CHECK.end();
    }
}
