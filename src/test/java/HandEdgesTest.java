/** Promises 8 to 11 sentence by sentence: what is paid early, undone, who is ruined, what one has. */
public final class HandEdgesTest {
    private static final Check CHECK = new Check();
    private static final int LEAST = Integer.MIN_VALUE;
    private static final int MOST = Integer.MAX_VALUE;
    private static final String ONE = "hill h dry 4 wet 4;";
    private static final String TWO = "hill h dry 4 wet 4;hill k dry 4 wet 4;";

    private static String lent(String who, int coins, int rate, int due, String on) {
        return "loan " + who + " coins " + coins + " rate " + rate + " due " + due + " on " + on + ";";
    }

    // ---- promise 8

    private static void whichEarly() {
        for (int loans : new int[] {0, 1, 10}) {
            RainLoans x = Check.told(ONE + "purse a 0;purse b 99;" + lent("a to b", 1, 0, 9, "h plain").repeat(loans));
            int paid = 0;
            for (int loan : new int[] {LEAST, -1, 0, 9, 10, MOST}) {
                boolean is = loan >= 0 && loan < loans;
                paid += is ? 1 : 0;
                CHECK.same("early(" + loan + ") of " + loans, x.early(loan), is);
                CHECK.same("purse(0)", x.purse(0), paid);
            }
        }
    }

    private static void refusedEarly() {
        for (int loan : new int[] {LEAST, -1, 3, MOST}) {
            CHECK.leavesAll("early(" + loan + "), none such", Sample::amid, x -> x.early(loan) ? 1 : 0, 0);
        }
        CHECK.leavesAll("early(2), which is PAID", Sample::amid, x -> x.early(2) ? 1 : 0, 0);
        CHECK.leavesAll("early(1), with less in the purse", Sample::amid, x -> x.early(1) ? 1 : 0, 0);
    }

    private static void asMuchAsItOwes() {
        for (int coins : new int[] {0, 6, 7, 8, 9999}) {
            RainLoans x = Check.told(ONE + "purse a 3;purse b " + coins + ";purse c 99;"
                    + lent("a to b", 5, 2, 9, "h plain bail c"));
            x.day(1);
            boolean can = coins >= 7;
            CHECK.same("early(0) with " + coins, x.early(0), can);
            CHECK.same("purse(0)", x.purse(0), can ? 10 : 3);
            CHECK.same("purse(1)", x.purse(1), can ? coins - 7 : coins);
            CHECK.same("the bail pays nothing", x.purse(2), 99);
            CHECK.same("OWES", x.loan(0, 2), can ? 0 : 7);
            CHECK.same("PAID", x.loan(0, 3), can ? 2 : 0);
            CHECK.same("RIPE days", x.loan(0, 4), 1);
            CHECK.same("has paid", x.loan(0, 7), can ? 7 : 0);
        }
    }

    private static void paidAlready() {
        RainLoans x = Check.told(ONE + "purse a 0;purse b 99;" + lent("a to b", 5, 0, 1, "h plain")
                + lent("a to b", 5, 0, 9, "h plain"));
        x.day(1);
        CHECK.same("PAID on a DAY", x.early(0), false);
        CHECK.same("LENT", x.early(1), true);
        CHECK.same("PAID EARLY", x.early(1), false);
        CHECK.same("purse(1)", x.purse(1), 89);
        CHECK.same("count(6)", x.count(6), 2);
    }

    private static void anyKindEarly() {
        for (String kind : "plain dry both either hidden joined".split(" ")) {
            RainLoans x = Check.told(TWO + "purse a 0;purse b 9;" + lent("a to b", 5, 0, 9, "h " + kind));
            CHECK.same("early(0) on DAY 0: " + kind, x.early(0), true);
            CHECK.same("no DAY has passed", x.count(4), 0);
            CHECK.same("loan(0, 3)", x.loan(0, 3), 2);
        }
        RainLoans due = Check.told(ONE + "purse a 0;purse b 3;purse c 9;" + lent("a to b", 5, 0, 1, "h plain")
                + lent("b to c", 9, 0, 9, "h plain"));
        due.day(1);
        CHECK.same("a DUE one, with less", due.early(0), false);
        due.early(1);
        CHECK.same("a DUE one, what is left of it", due.early(0), true);
        CHECK.same("purse(1)", due.purse(1), 7);
        CHECK.same("loan(0, 7)", due.loan(0, 7), 5);
    }

    private static void promise8() {
        CHECK.promise(8, "false: others", HandEdgesTest::whichEarly);
        CHECK.promise(8, "false: nothing changes", HandEdgesTest::refusedEarly);
        CHECK.promise(8, "with all that it OWES, if the debtor's purse has so much", HandEdgesTest::asMuchAsItOwes);
        CHECK.promise(8, "false: it is PAID", HandEdgesTest::paidAlready);
        CHECK.promise(8, "a loan that is not PAID: LENT or DUE, of any KIND", HandEdgesTest::anyKindEarly);
    }

    // ---- promise 9

    private static void noneToUndo() {
        CHECK.same("a new object", new RainLoans().undo(), false);
        CHECK.leavesAll("behind a custom", Sample::fresh, x -> x.undo() ? 1 : 0, 0);
        CHECK.leavesAll("behind going back to a mark", () -> {
            RainLoans x = Sample.amid();
            x.mark(1, true);
            return x;
        }, x -> x.undo() ? 1 : 0, 0);
        CHECK.leavesAll("behind the last one", () -> {
            RainLoans x = Sample.amid();
            for (int i = 0; i < 4; i++) {
                CHECK.same("undo()", x.undo(), true);
            }
            return x;
        }, x -> x.undo() ? 1 : 0, 0);
    }

    private static void dayOrEarly() {
        RainLoans x = Sample.amid();
        RainLoans y = Sample.fresh();
        y.day(1);
        y.mark(1, false);
        y.day(2);
        y.early(2);
        Check.feed(y, "purse z 3;");
        CHECK.same("a DAY", x.undo(), true);
        CHECK.same("is as it was", Look.state(x), Look.state(y));
        RainLoans z = Sample.fresh();
        z.day(1);
        z.mark(1, false);
        z.day(2);
        Check.feed(z, "purse z 3;");
        CHECK.same("an EARLY", x.undo(), true);
        CHECK.same("is as it was", Look.state(x), Look.state(z));
        CHECK.same("undoing can't be undone: further back", x.undo(), true);
        CHECK.same("count(4)", x.count(4), 1);
        CHECK.same("it goes on from there", x.day(2), 1);
        CHECK.same("as before", Look.state(x), Look.state(z));
    }

    private static void refusedAreNotUndone() {
        RainLoans x = Sample.fresh();
        x.day(0);
        x.day(4);
        x.day(-1);
        x.early(3);
        x.early(-1);
        x.worth(0, 1, 0);
        x.better(0, 1);
        x.fits(1, 0, 0);
        x.lots(1, 1, 0);
        x.mark(0, false);
        x.mark(-1, true);
        CHECK.same("a fault", Check.tell(x, "~"), 1);
        CHECK.same("count(6)", x.count(6), 1);
        CHECK.same("undo()", x.undo(), true);
        CHECK.same("count(4)", x.count(4), 0);
        CHECK.same("undo()", x.undo(), false);
    }

    private static void lastThirty() {
        for (int days : new int[] {1, 29, 30, 31, 32, 59, 60, 61, 91}) {
            RainLoans x = Check.told(ONE + "purse a 0;purse b 0;" + lent("a to b", 5, 1, 9, "h plain"));
            for (int i = 0; i < days; i++) {
                x.day(1);
            }
            int can = Math.min(days, 30);
            CHECK.same("count(6) behind " + days, x.count(6), can);
            for (int i = 1; i <= can; i++) {
                CHECK.same("undo() " + i + " of " + days, x.undo(), true);
                CHECK.same("count(4)", x.count(4), days - i);
                CHECK.same("count(6)", x.count(6), can - i);
                CHECK.same("loan(0, 4)", x.loan(0, 4), days - i);
                CHECK.same("loan(0, 2)", x.loan(0, 2), 5 + days - i);
            }
            CHECK.same("one more", x.undo(), false);
            CHECK.same("count(4)", x.count(4), days - can);
        }
    }

    private static void thirtyOfBoth() {
        RainLoans x = Check.told(ONE + "purse a 0;purse b 99;" + lent("a to b", 1, 0, 9, "h plain").repeat(10));
        for (int i = 0; i < 22; i++) {
            x.day(0);
        }
        for (int loan = 0; loan < 10; loan++) {
            x.early(loan);
        }
        CHECK.same("count(6)", x.count(6), 30);
        for (int i = 1; i <= 30; i++) {
            CHECK.same("undo()", x.undo(), true);
            CHECK.same("purse(0)", x.purse(0), Math.max(0, 10 - i));
            CHECK.same("count(4)", x.count(4), Math.min(22, 32 - i));
        }
        CHECK.same("undo()", x.undo(), false);
    }

    private static void backAndForth() {
        RainLoans x = Check.told(ONE + "purse a 0;purse b 0;" + lent("a to b", 5, 1, 9, "h plain"));
        int day = 0;
        int can = 0;
        for (int turn = 1; turn <= 12; turn++) {
            for (int i = 0; i < 7 * (turn % 3) + 4; i++) {
                x.day(1);
                day++;
                can = Math.min(30, can + 1);
            }
            for (int i = 0; i < 9; i++) {
                CHECK.same("undo() with " + can, x.undo(), can > 0);
                day -= can > 0 ? 1 : 0;
                can = Math.max(0, can - 1);
            }
            CHECK.same("count(4)", x.count(4), day);
            CHECK.same("count(6)", x.count(6), can);
            CHECK.same("loan(0, 4)", x.loan(0, 4), day);
        }
    }

    private static void promise9() {
        CHECK.promise(9, "false: there is none", HandEdgesTest::noneToUndo);
        CHECK.promise(9, "the last DAY or EARLY is undone", HandEdgesTest::dayOrEarly);
        CHECK.promise(9, "what was refused, or only asked, can't be undone", HandEdgesTest::refusedAreNotUndone);
        CHECK.promise(9, "the last 30", HandEdgesTest::lastThirty);
        CHECK.promise(9, "the last 30, DAYS and EARLY together", HandEdgesTest::thirtyOfBoth);
        CHECK.promise(9, "undone and gone on with, again and again", HandEdgesTest::backAndForth);
    }

    // ---- promise 10

    private static String ring(int poor) {
        StringBuilder text = new StringBuilder(ONE);
        for (int p = 0; p < 6; p++) {
            text.append("purse ").append((char) ('a' + p)).append((poor >> p & 1) == 1 ? " 0;" : " 9;");
        }
        for (int p = 0; p < 6; p++) {
            text.append(lent((char) ('a' + (p + 5) % 6) + " to " + (char) ('a' + p), 9, 0, 1, "h plain"));
        }
        return text.toString();
    }

    private static void asBits() {
        for (int p = 0; p < 6; p++) {
            RainLoans x = Check.told(ONE + Check.times("purse # 0;", 6)
                    + lent((char) ('a' + (p + 5) % 6) + " to " + (char) ('a' + p), 9, 0, 1, "h plain"));
            x.day(1);
            CHECK.same("PERSON " + p, x.ruined(), 1 << p);
        }
        RainLoans all = Check.told(ring(63));
        all.day(1);
        CHECK.same("all six", all.ruined(), 63);
        RainLoans one = Check.told(ring(62));
        one.day(1);
        CHECK.same("nobody, if coins go round", one.ruined(), 0);
        RainLoans twice = Check.told(ONE + "purse a 0;purse b 0;" + lent("a to b", 9, 0, 1, "h plain").repeat(2));
        twice.day(1);
        CHECK.same("a debtor of two", twice.ruined(), 2);
    }

    private static void noneOnDay0() {
        CHECK.same("a new object", new RainLoans().ruined(), 0);
        RainLoans x = Check.told(ring(63));
        CHECK.same("a new custom", x.ruined(), 0);
        x.mark(0, false);
        x.day(1);
        CHECK.same("DAY 1", x.ruined(), 63);
        x.undo();
        CHECK.same("undone to DAY 0", x.ruined(), 0);
        x.day(1);
        x.mark(0, true);
        CHECK.same("gone back to DAY 0", x.ruined(), 0);
        x.day(1);
        Check.tell(x, ring(63));
        CHECK.same("told anew", x.ruined(), 0);
    }

    private static void calledOnly() {
        RainLoans x = Check.told(TWO + "purse a 0;purse b 0;purse c 0;" + lent("a to b", 5, 0, 1, "h plain")
                + lent("b to c", 5, 0, 1, "k plain"));
        CHECK.same("both are LENT, none is CALLED", x.day(0), 0);
        CHECK.same("ruined()", x.ruined(), 0);
        x.day(1);
        CHECK.same("b", x.ruined(), 2);
        x.day(2);
        CHECK.same("on the last DAY only: c", x.ruined(), 4);
        CHECK.same("DUE", x.day(0), 2);
        CHECK.same("but not CALLED", x.ruined(), 0);
        x.day(3);
        CHECK.same("a FLOOD", x.ruined(), 6);
        CHECK.same("no such weather", x.day(4), -1);
        CHECK.same("is no DAY", x.ruined(), 6);
    }

    private static void notPaid() {
        for (int coins = 0; coins <= 6; coins++) {
            RainLoans x = Check.told(ONE + "purse a 0;purse b " + coins + ";" + lent("a to b", 5, 0, 1, "h plain"));
            x.day(1);
            CHECK.same("with " + coins + " of 5", x.ruined(), coins < 5 ? 2 : 0);
            RainLoans y = Check.told(ONE + "purse a 0;purse b 1;purse c " + coins + ";" + lent("a to b", 5, 0, 1, "h plain bail c"));
            y.day(1);
            CHECK.same("with 1 and a bail of " + coins, y.ruined(), coins < 4 ? 2 : 0);
        }
    }

    private static void paidBehindTheDay() {
        RainLoans x = Check.told(ONE + "purse a 0;purse b 9;" + lent("b to a", 9, 0, 1, "h plain") + lent("a to b", 9, 0, 9, "h plain"));
        x.day(1);
        CHECK.same("a", x.ruined(), 1);
        x.early(1);
        CHECK.same("a purse that would do is not enough", x.ruined(), 1);
        x.early(0);
        CHECK.same("PAID EARLY behind the DAY", x.ruined(), 0);
        x.undo();
        CHECK.same("undone", x.ruined(), 1);
    }

    private static void promise10() {
        CHECK.promise(10, "as bits", HandEdgesTest::asBits);
        CHECK.promise(10, "none on DAY 0", HandEdgesTest::noneOnDay0);
        CHECK.promise(10, "CALLED on the last DAY", HandEdgesTest::calledOnly);
        CHECK.promise(10, "and not PAID", HandEdgesTest::notPaid);
        CHECK.promise(10, "and not PAID: by hand behind the DAY", HandEdgesTest::paidBehindTheDay);
        CHECK.promise(10, "asking changes nothing", () -> CHECK.leavesAll("ruined()", Sample::amid, RainLoans::ruined, 4));
    }

    // ---- promise 11

    private static void whoHas() {
        for (int persons = 0; persons <= 6; persons++) {
            RainLoans x = Check.told(Check.times("purse # 7;", persons));
            for (int p : new int[] {LEAST, -1, 0, 1, 2, 3, 4, 5, 6, 7, MOST}) {
                long due = p >= 0 && p < persons ? 7 : Check.THROWN;
                CHECK.same("has(" + p + ") of " + persons, Check.answer(() -> x.has(p)), due);
            }
        }
    }

    private static void hasAre(RainLoans x, int... coins) {
        for (int p = 0; p < coins.length; p++) {
            CHECK.same("has(" + p + ")", x.has(p), coins[p]);
        }
    }

    private static void whatOneHas() {
        RainLoans x = Check.told(ONE + "purse a 1;purse b 5;purse c 9;" + lent("a to b", 20, 3, 9, "h plain bail c")
                + lent("b to a", 4, 1, 9, "h dry bail c"));
        hasAre(x, 1 + 20 - 4, 5 - 20 + 4, 9);
        x.day(1);
        hasAre(x, 1 + 23 - 4, 5 - 23 + 4, 9);
        x.day(0);
        hasAre(x, 1 + 23 - 5, 5 - 23 + 5, 9);
        CHECK.same("early(1)", x.early(1), false);
        x.undo();
        x.undo();
        hasAre(x, 17, -11, 9);
    }

    private static void hasOfPaidOnes() {
        RainLoans x = Check.told(ONE + "purse a 1;purse b 30;" + lent("a to b", 20, 3, 9, "h plain"));
        hasAre(x, 21, 10);
        x.early(0);
        hasAre(x, 21, 10);
        x.day(1);
        hasAre(x, 21, 10);
        RainLoans poor = Check.told(ONE + "purse a 0;purse b 0;" + lent("a to b", 999, 99, 9, "h plain").repeat(10));
        poor.day(1);
        hasAre(poor, 10980, -10980);
        RainLoans due = Check.told(ONE + "purse a 0;purse b 3;" + lent("a to b", 5, 0, 1, "h plain"));
        due.day(1);
        hasAre(due, 5, -2);
    }

    private static void promise11() {
        CHECK.promise(11, "NoSuchElementException: none such", HandEdgesTest::whoHas);
        CHECK.promise(11, "its purse, what loans OWE that it lent, less what those lent to it OWE", HandEdgesTest::whatOneHas);
        CHECK.promise(11, "what is PAID counts no more; below 0", HandEdgesTest::hasOfPaidOnes);
        CHECK.promise(11, "asking changes nothing", () -> {
            CHECK.leavesAll("has(0)", Sample::amid, x -> x.has(0), 5 + 22);
            CHECK.leavesAll("has(3)", Sample::amid, x -> x.has(3), Check.THROWN);
        });
    }

    public static void main(String[] args) {
        promise8();
        promise9();
        promise10();
        promise11();
        CHECK.end();
    }
}
