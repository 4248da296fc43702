/** Promises 4 to 7 sentence by sentence: hills, purses, loans, and what comes to pass on a day. */
public final class DaysEdgesTest {
    private static final Check CHECK = new Check();
    private static final int LEAST = Integer.MIN_VALUE;
    private static final int MOST = Integer.MAX_VALUE;
    private static final String[] KINDS = {"plain", "dry", "both", "either", "hidden", "joined"};
    private static final String ONE = "hill h dry 4 wet 4;";
    private static final String TWO = "hill h dry 4 wet 4;hill k dry 4 wet 4;";
    private static final String FOUR = Check.times("hill h# dry 4 wet 4;", 4);

    private static String purses(int... coins) {
        StringBuilder text = new StringBuilder();
        for (int i = 0; i < coins.length; i++) {
            text.append("purse ").append((char) ('a' + i)).append(' ').append(coins[i]).append(';');
        }
        return text.toString();
    }

    /** A loan told shortly: "a to b", coins, rate, due, "h plain". */
    private static String loan(String who, int coins, int rate, int due, String on) {
        return "loan " + who + " coins " + coins + " rate " + rate + " due " + due + " on " + on + ";";
    }

    private static void loanIs(RainLoans x, int loan, int owes, int stage, int ripe, int paid) {
        CHECK.same("loan(" + loan + ", 2)", x.loan(loan, 2), owes);
        CHECK.same("loan(" + loan + ", 3)", x.loan(loan, 3), stage);
        CHECK.same("loan(" + loan + ", 4)", x.loan(loan, 4), ripe);
        CHECK.same("loan(" + loan + ", 7)", x.loan(loan, 7), paid);
    }

    private static void pursesAre(RainLoans x, int... coins) {
        for (int i = 0; i < coins.length; i++) {
            CHECK.same("purse(" + i + ")", x.purse(i), coins[i]);
        }
    }

    // ---- promise 4

    private static void whichHills() {
        for (int hills = 0; hills <= 4; hills++) {
            RainLoans x = Check.told(Check.times("hill # dry 0 wet 8;", hills));
            for (int hill : new int[] {LEAST, -1, 0, 1, 2, 3, 4, 5, MOST}) {
                boolean is = hill >= 0 && hill < hills;
                CHECK.same("hill(" + hill + ", 0) of " + hills, x.hill(hill, 0), is ? 0 : -1);
                CHECK.same("hill(" + hill + ", 1) of " + hills, x.hill(hill, 1), is ? 8 : -1);
                CHECK.same("hill(" + hill + ", 2) of " + hills, x.hill(hill, 2), is ? 0 : -1);
            }
        }
    }

    private static void whichOfAHill() {
        RainLoans x = Check.told("hill h dry 3 wet 5;");
        x.day(1);
        int[] due = {3, 5, 1};
        for (int what : new int[] {LEAST, -2, -1, 0, 1, 2, 3, 4, MOST}) {
            CHECK.same("hill(0, " + what + ")", x.hill(0, what), what >= 0 && what <= 2 ? due[what] : -1);
        }
    }

    private static void rainedOnTheLastDay() {
        RainLoans x = Check.told(FOUR);
        for (int wet = 0; wet < 16; wet++) {
            x.day(wet);
            CHECK.same("day(16)", x.day(16), -1);
            for (int hill = 0; hill < 4; hill++) {
                CHECK.same("hill(" + hill + ", 2) behind day(" + wet + ")", x.hill(hill, 2), wet >> hill & 1);
            }
        }
        x.undo();
        CHECK.same("hill(0, 2) behind day(14) again", x.hill(0, 2), 0);
        CHECK.same("hill(1, 2) behind day(14) again", x.hill(1, 2), 1);
    }

    private static void promise4() {
        CHECK.promise(4, "of a HILL; NONE: others", DaysEdgesTest::whichHills);
        CHECK.promise(4, "what 0 to 2; NONE: others", DaysEdgesTest::whichOfAHill);
        CHECK.promise(4, "1 if it rained there on the last DAY", DaysEdgesTest::rainedOnTheLastDay);
        CHECK.promise(4, "asking changes nothing", () -> {
            CHECK.leavesAll("hill(0, 0)", Sample::amid, x -> x.hill(0, 0), 1);
            CHECK.leavesAll("hill(2, 0)", Sample::amid, x -> x.hill(2, 0), -1);
        });
    }

    // ---- promises 5 and 6

    private static void whichPersons() {
        for (int persons = 0; persons <= 6; persons++) {
            RainLoans x = Check.told(Check.times("purse # 7;", persons));
            for (int p : new int[] {LEAST, -1, 0, 1, 2, 3, 4, 5, 6, 7, MOST}) {
                long due = p >= 0 && p < persons ? 7 : Check.THROWN;
                CHECK.same("purse(" + p + ") of " + persons, Check.answer(() -> x.purse(p)), due);
            }
        }
    }

    private static void coinsOfAPerson() {
        pursesAre(Check.told(purses(0, 9999, 1, 9998, 10, 100)), 0, 9999, 1, 9998, 10, 100);
        RainLoans rich = Check.told(ONE + purses(9999, 9999) + loan("a to b", 999, 99, 1, "h plain"));
        rich.day(1);
        pursesAre(rich, 9999 + 1098, 9999 - 1098);
    }

    private static void whichLoans() {
        String loan = loan("a to b", 9, 0, 9, "h plain");
        for (int loans : new int[] {0, 1, 9, 10}) {
            RainLoans x = Check.told(ONE + purses(1, 2) + loan.repeat(loans));
            for (int l : new int[] {LEAST, -1, 0, 1, 8, 9, 10, 11, MOST}) {
                boolean is = l >= 0 && l < loans;
                CHECK.same("loan(" + l + ", 1) of " + loans, x.loan(l, 1), is ? 1 : -1);
                CHECK.same("loan(" + l + ", 2) of " + loans, x.loan(l, 2), is ? 9 : -1);
                CHECK.same("loan(" + l + ", 7) of " + loans, x.loan(l, 7), is ? 0 : -1);
            }
        }
    }

    private static void whichOfALoan() {
        RainLoans x = Check.told(ONE + Check.times("purse # 0;", 6) + loan("e to f", 999, 99, 9, "h joined bail d")
                + loan("a to b", 1, 0, 1, "h plain"));
        x.day(1);
        int[][] due = {{4, 5, 1098, 0, 1, 5, 3, 0}, {0, 1, 1, 1, 1, 0, -1, 0}};
        for (int loan = 0; loan < 2; loan++) {
            for (int what : new int[] {LEAST, -2, -1, 0, 1, 2, 3, 4, 5, 6, 7, 8, 9, MOST}) {
                CHECK.same("loan(" + loan + ", " + what + ")", x.loan(loan, what),
                        what >= 0 && what <= 7 ? due[loan][what] : -1);
            }
        }
    }

    private static void stagesOfALoan() {
        RainLoans x = Check.told(ONE + purses(0, 5, 5) + loan("a to b", 9, 0, 2, "h plain")
                + loan("b to c", 4, 0, 9, "h plain"));
        loanIs(x, 0, 9, 0, 0, 0);
        x.day(1);
        loanIs(x, 0, 9, 0, 1, 0);
        x.day(1);
        loanIs(x, 0, 4, 1, 2, 5);
        x.early(1);
        x.day(1);
        loanIs(x, 0, 0, 2, 3, 9);
    }

    private static void promises5And6() {
        CHECK.promise(5, "NoSuchElementException: none such", DaysEdgesTest::whichPersons);
        CHECK.promise(5, "coins of a PERSON", DaysEdgesTest::coinsOfAPerson);
        CHECK.promise(5, "asking changes nothing", () -> {
            CHECK.leavesAll("purse(1)", Sample::amid, x -> x.purse(1), 59);
            CHECK.leavesAll("purse(3)", Sample::amid, x -> x.purse(3), Check.THROWN);
        });
        CHECK.promise(6, "of a loan; NONE: others", DaysEdgesTest::whichLoans);
        CHECK.promise(6, "what 0 to 7; NONE: others", DaysEdgesTest::whichOfALoan);
        CHECK.promise(6, "0 LENT, 1 DUE, 2 PAID; coins that it has paid", DaysEdgesTest::stagesOfALoan);
        CHECK.promise(6, "asking changes nothing", () -> {
            CHECK.leavesAll("loan(1, 2)", Sample::amid, x -> x.loan(1, 2), 2);
            CHECK.leavesAll("loan(3, 2)", Sample::amid, x -> x.loan(3, 2), -1);
        });
    }

    // ---- promise 7

    private static void whichWeathers() {
        for (int hills = 0; hills <= 4; hills++) {
            RainLoans x = Check.told(Check.times("hill # dry 0 wet 0;", hills));
            int days = 0;
            for (int wet : new int[] {LEAST, -16, -1, 0, 1, 2, 3, 4, 7, 8, 15, 16, 17, 31, 32, 1 << 30, MOST}) {
                boolean is = wet >= 0 && wet < 1 << hills;
                days += is ? 1 : 0;
                CHECK.same("day(" + wet + ") with " + hills, x.day(wet), is ? 0 : -1);
                CHECK.same("count(4)", x.count(4), days);
                CHECK.same("count(6)", x.count(6), days);
            }
        }
    }

    private static void refusedDays() {
        for (int wet : new int[] {LEAST, -1, 4, MOST}) {
            CHECK.leavesAll("day(" + wet + ")", Sample::amid, x -> x.day(wet), -1);
        }
    }

    private static boolean isRipe(String kind, boolean here, boolean next) {
        return switch (kind) {
            case "dry" -> !here;
            case "both" -> here && next;
            case "either" -> here || next;
            default -> here;
        };
    }

    private static void ripe() {
        for (int hills = 1; hills <= 4; hills++) {
            for (int hill = 0; hill < hills; hill++) {
                for (String kind : KINDS) {
                    for (int wet = 0; wet < 1 << hills; wet++) {
                        RainLoans x = Check.told(Check.times("hill h# dry 4 wet 4;", hills) + purses(0, 0)
                                + loan("a to b", 1, 7, 9, "h" + (char) ('a' + hill) + " " + kind));
                        x.day(wet);
                        boolean is = isRipe(kind, (wet >> hill & 1) == 1, (wet >> (hill + 1) % hills & 1) == 1);
                        String of = kind + " on " + hill + " of " + hills + " in " + wet;
                        CHECK.same("RIPE days of " + of, x.loan(0, 4), is ? 1 : 0);
                        CHECK.same("OWES of " + of, x.loan(0, 2), is ? 8 : 1);
                    }
                }
            }
        }
    }

    private static void rateMore() {
        RainLoans x = Check.told(ONE + purses(0, 0) + loan("a to b", 1, 0, 9, "h plain")
                + loan("a to b", 999, 99, 9, "h plain") + loan("a to b", 5, 1, 1, "h plain"));
        for (int i = 1; i <= 12; i++) {
            x.day(1);
            x.day(0);
            loanIs(x, 0, 1, i >= 9 ? 1 : 0, i, 0);
            loanIs(x, 1, 999 + 99 * i, i >= 9 ? 1 : 0, i, 0);
            // One that is DUE grows on, as it is not PAID.
            loanIs(x, 2, 5 + i, 1, i, 0);
        }
    }

    private static void paidOnesRest() {
        RainLoans x = Check.told(ONE + purses(0, 90) + loan("a to b", 5, 3, 2, "h plain")
                + loan("a to b", 5, 3, 9, "h plain"));
        x.early(1);
        loanIs(x, 1, 0, 2, 0, 5);
        x.day(1);
        loanIs(x, 1, 0, 2, 0, 5);
        x.day(1);
        loanIs(x, 0, 0, 2, 2, 11);
        x.day(1);
        loanIs(x, 0, 0, 2, 2, 11);
        pursesAre(x, 16, 74);
    }

    private static void dueFrom() {
        for (int due = 1; due <= 9; due++) {
            RainLoans x = Check.told(ONE + purses(0, 0) + loan("a to b", 5, 0, due, "h plain"));
            for (int i = 1; i <= due + 1; i++) {
                CHECK.same("a dry day", x.day(0), i > due ? 1 : 0);
                CHECK.same("the wet day " + i + " of " + due, x.day(1), i >= due ? 1 : 0);
                CHECK.same("loan(0, 3)", x.loan(0, 3), i >= due ? 1 : 0);
            }
        }
    }

    private static void whatIsAFlood() {
        for (int hills = 0; hills <= 4; hills++) {
            RainLoans x = Check.told(Check.times("hill # dry 4 wet 4;", hills));
            int floods = 0;
            for (int wet = 0; wet < 1 << hills; wet++) {
                x.day(wet);
                floods += hills >= 2 && wet == (1 << hills) - 1 ? 1 : 0;
                CHECK.same("count(5) behind day(" + wet + ") with " + hills, x.count(5), floods);
            }
        }
        RainLoans one = Check.told(ONE + purses(0, 9) + loan("a to b", 5, 0, 2, "h plain"));
        one.day(1);
        CHECK.same("rain on the one HILL calls nothing in", one.loan(0, 3), 0);
    }

    private static void floodsCallAllIn() {
        StringBuilder text = new StringBuilder(FOUR + purses(0, 0));
        for (String kind : KINDS) {
            text.append(loan("a to b", 5, 1, 9, "ha " + kind));
        }
        RainLoans x = Check.told(text.toString());
        CHECK.same("all HILLS but one", x.day(14), 0);
        CHECK.same("all HILLS", x.day(15), 5);
        int[] ripe = {1, 1, 1, 2, 1, 1};
        for (int kind = 0; kind < 6; kind++) {
            loanIs(x, kind, 5 + ripe[kind], KINDS[kind].equals("hidden") ? 0 : 1, ripe[kind], 0);
        }
        CHECK.same("the day behind it", x.day(0), 5);
    }

    private static void hiddenOnes() {
        RainLoans x = Check.told(TWO + purses(0, 9) + loan("a to b", 5, 0, 2, "h hidden"));
        x.day(3);
        loanIs(x, 0, 5, 0, 1, 0);
        x.day(3);
        loanIs(x, 0, 0, 2, 2, 5);
        // DUE by its RIPE days it is CALLED in a FLOOD, too: it is RIPE for it.
        RainLoans y = Check.told(TWO + purses(0, 0, 9) + loan("a to b", 5, 0, 1, "h hidden")
                + loan("b to c", 9, 0, 9, "k plain"));
        CHECK.same("day(1)", y.day(1), 1);
        CHECK.same("day(2)", y.day(2), 1);
        CHECK.same("day(3)", y.day(3), 0);
        pursesAre(y, 5, 4, 0);
    }

    private static void joinedOnes() {
        String joined = loan("a to b", 5, 0, 9, "k joined");
        // Looked for behind all this: a loan of a higher number counts.
        RainLoans x = Check.told(TWO + purses(0, 0, 0) + joined + loan("c to b", 5, 0, 1, "h plain") + joined);
        CHECK.same("day(2)", x.day(2), 0);
        CHECK.same("day(1)", x.day(1), 3);
        loanIs(x, 0, 5, 1, 1, 0);
        RainLoans left = Check.told(TWO + purses(0, 0, 0) + loan("c to b", 5, 0, 1, "h plain") + joined);
        CHECK.same("day(1)", left.day(1), 2);
        RainLoans hidden = Check.told(TWO + purses(0, 0, 0) + joined + loan("c to b", 5, 0, 1, "h hidden"));
        CHECK.same("by a hidden one that is DUE", hidden.day(1), 2);
        RainLoans ten = Check.told(TWO + purses(0, 0, 0) + joined.repeat(9) + loan("c to b", 5, 0, 2, "h plain"));
        CHECK.same("ten, none is DUE", ten.day(1), 0);
        CHECK.same("ten, by the last", ten.day(1), 10);
    }

    private static void joinedWithout() {
        String joined = loan("a to b", 5, 0, 9, "k joined");
        RainLoans lender = Check.told(TWO + purses(0, 0, 0) + loan("a to c", 5, 0, 1, "h plain")
                + loan("b to c", 5, 0, 1, "h plain") + joined);
        CHECK.same("another debtor's loans are no reason", lender.day(1), 2);
        CHECK.same("loan(2, 3)", lender.loan(2, 3), 0);
        RainLoans paid = Check.told(TWO + purses(0, 9, 0) + loan("c to b", 9, 0, 9, "h plain") + joined);
        paid.early(0);
        CHECK.same("one that is PAID is no reason", paid.day(1), 0);
        CHECK.same("loan(1, 3)", paid.loan(1, 3), 0);
        RainLoans lent = Check.told(TWO + purses(0, 0, 0) + loan("c to b", 9, 0, 2, "h plain") + joined + joined);
        CHECK.same("ones that are LENT are no reason", lent.day(1), 0);
        CHECK.same("not even two joined ones", lent.day(2), 0);
        // A joined loan is RIPE as a plain one and may be DUE by itself.
        RainLoans alone = Check.told(TWO + purses(0, 0) + loan("a to b", 5, 1, 2, "k joined"));
        CHECK.same("day(2)", alone.day(2), 0);
        CHECK.same("day(2)", alone.day(2), 1);
        loanIs(alone, 0, 7, 1, 2, 0);
    }

    private static void joinedOnTheDay() {
        // The other one is PAID on the very day; it was DUE when it was looked for.
        RainLoans x = Check.told(TWO + purses(0, 7) + loan("a to b", 5, 0, 1, "h plain")
                + loan("a to b", 9, 0, 9, "h joined") + loan("a to b", 9, 0, 9, "k joined"));
        CHECK.same("day(1)", x.day(1), 2);
        loanIs(x, 0, 0, 2, 1, 5);
        loanIs(x, 1, 7, 1, 1, 2);
        loanIs(x, 2, 9, 1, 0, 0);
    }

    private static void whichAreCalled() {
        // Loan 0 is DUE by a FLOOD; it is CALLED on wet days of h only, or by another FLOOD.
        RainLoans x = Check.told(TWO + purses(0, 0, 9, 9) + loan("a to b", 5, 0, 9, "h plain")
                + loan("a to b", 4, 0, 1, "h dry") + loan("b to c", 1, 0, 9, "h plain") + loan("b to d", 1, 0, 9, "h plain"));
        x.early(2);
        CHECK.same("b has a coin", x.purse(1), 1);
        x.early(3);
        CHECK.same("a dry day: the dry one is CALLED", x.day(0), 1);
        loanIs(x, 0, 5, 0, 0, 0);
        loanIs(x, 1, 2, 1, 1, 2);
        RainLoans y = Check.told(TWO + purses(0, 0, 9) + loan("a to b", 5, 2, 9, "h plain") + loan("b to c", 8, 0, 9, "k dry"));
        CHECK.same("a FLOOD: all are DUE, CALLED and PAID", y.day(3), 0);
        RainLoans z = Check.told(TWO + purses(0, 0, 9) + loan("a to b", 5, 2, 1, "h plain") + loan("b to c", 8, 0, 9, "k dry"));
        CHECK.same("day(1)", z.day(1), 1);
        z.early(1);
        CHECK.same("the debtor could pay", z.purse(1), 8);
        CHECK.same("DUE, but not RIPE: not CALLED", z.day(2), 1);
        loanIs(z, 0, 7, 1, 1, 0);
        CHECK.same("DUE and RIPE", z.day(1), 1);
        loanIs(z, 0, 1, 1, 2, 8);
    }

    private static void calledByAFlood() {
        RainLoans x = Check.told(TWO + purses(0, 0, 9) + loan("a to b", 5, 2, 1, "h dry") + loan("b to c", 8, 0, 9, "k hidden"));
        CHECK.same("day(0)", x.day(0), 1);
        x.early(1);
        CHECK.same("day(1): not RIPE, no FLOOD", x.day(1), 1);
        CHECK.same("purse(0)", x.purse(0), 0);
        CHECK.same("day(3): not RIPE, but a FLOOD", x.day(3), 0);
        // Not RIPE: no rate for it.
        loanIs(x, 0, 0, 2, 1, 7);
        pursesAre(x, 7, 1, 1);
    }

    private static void asFarAsThePurseGoes() {
        for (int coins : new int[] {0, 1, 4, 5, 6, 9999}) {
            RainLoans x = Check.told(ONE + purses(3, coins) + loan("a to b", 4, 1, 1, "h plain"));
            int paid = Math.min(coins, 5);
            CHECK.same("day(1) with " + coins, x.day(1), paid < 5 ? 1 : 0);
            loanIs(x, 0, 5 - paid, paid < 5 ? 1 : 2, 1, paid);
            pursesAre(x, 3 + paid, coins - paid);
        }
    }

    private static void bails() {
        for (int debtor : new int[] {0, 1, 4, 5, 6}) {
            for (int bail : new int[] {0, 1, 4, 5, 6}) {
                RainLoans x = Check.told(ONE + purses(3, debtor, bail) + loan("a to b", 4, 1, 1, "h plain bail c"));
                int first = Math.min(debtor, 5);
                int then = Math.min(bail, 5 - first);
                CHECK.same("day(1) with " + debtor + " and " + bail, x.day(1), first + then < 5 ? 1 : 0);
                loanIs(x, 0, 5 - first - then, first + then < 5 ? 1 : 2, 1, first + then);
                pursesAre(x, 3 + first + then, debtor - first, bail - then);
            }
        }
    }

    private static void bailByRain() {
        String text = FOUR + purses(0, 1, 9) + loan("a to b", 4, 0, 1, "ha dry bail c");
        for (int wet = 0; wet < 15; wet += 2) {
            RainLoans x = Check.told(text);
            x.day(wet);
            pursesAre(x, wet == 0 ? 1 : 4, 0, wet == 0 ? 9 : 6);
        }
        RainLoans flood = Check.told(text);
        flood.day(15);
        pursesAre(flood, 4, 0, 6);
        RainLoans without = Check.told(FOUR + purses(0, 1, 9) + loan("a to b", 4, 0, 1, "ha plain"));
        without.day(1);
        pursesAre(without, 1, 0, 9);
    }

    private static void byNumber() {
        RainLoans x = Check.told(ONE + purses(0, 5, 0) + loan("c to b", 4, 0, 1, "h plain") + loan("a to b", 4, 0, 1, "h plain"));
        x.day(1);
        pursesAre(x, 1, 0, 4);
        // The bail of loan 0 pays ahead of loan 1, in which it is the debtor.
        RainLoans y = Check.told(ONE + purses(0, 0, 5, 0) + loan("a to b", 4, 0, 1, "h plain bail c")
                + loan("d to c", 4, 0, 1, "h plain"));
        y.day(1);
        pursesAre(y, 4, 0, 0, 1);
    }

    private static void anotherRound() {
        // f's 3 coins come to a in five rounds, as each loan stands ahead of the one that brings them.
        RainLoans x = Check.told(ONE + purses(0, 0, 0, 0, 0, 3) + loan("a to b", 3, 0, 1, "h plain")
                + loan("b to c", 3, 0, 1, "h plain") + loan("c to d", 3, 0, 1, "h plain") + loan("d to e", 3, 0, 1, "h plain")
                + loan("e to f", 3, 0, 1, "h plain"));
        CHECK.same("day(1)", x.day(1), 0);
        pursesAre(x, 3, 0, 0, 0, 0, 0);
        // A bail helps in the round in which the debtor has nothing yet; what comes later stays with the debtor.
        RainLoans y = Check.told(ONE + purses(0, 0, 3, 3) + loan("a to b", 3, 0, 1, "h plain bail c")
                + loan("b to d", 3, 0, 1, "h plain"));
        CHECK.same("day(1)", y.day(1), 0);
        pursesAre(y, 3, 3, 0, 0);
        // The bail has nothing in the first round; what it gets then is asked for in the second.
        RainLoans z = Check.told(ONE + purses(0, 0, 0, 3) + loan("a to b", 3, 0, 1, "h plain bail c")
                + loan("c to d", 3, 0, 1, "h plain"));
        CHECK.same("day(1)", z.day(1), 0);
        pursesAre(z, 3, 0, 0, 0);
    }

    /** e's one coin goes round a to d, hardly more than a hop in each round, till the debts of 451 wet days are paid. */
    private static void mostRounds() {
        StringBuilder text = new StringBuilder(TWO + purses(0, 0, 0, 0, 1));
        for (String who : new String[] {"a to b", "b to c", "c to d", "d to a"}) {
            text.append(loan(who, 999, 99, 1, "h plain").repeat(2));
        }
        text.append(loan("d to e", 1, 0, 1, "k plain"));
        RainLoans x = Check.told(text.toString());
        for (int i = 0; i < 450; i++) {
            x.day(1);
        }
        CHECK.same("day(3)", x.day(3), 0);
        for (int i = 0; i < 8; i++) {
            loanIs(x, i, 0, 2, 451, 999 + 99 * 451);
        }
        pursesAre(x, 0, 0, 0, 1, 0);
    }

    private static void leftStaysDue() {
        RainLoans x = Check.told(ONE + purses(0, 3) + loan("a to b", 5, 1, 1, "h plain"));
        CHECK.same("day(1)", x.day(1), 1);
        loanIs(x, 0, 3, 1, 1, 3);
        CHECK.same("day(0)", x.day(0), 1);
        loanIs(x, 0, 3, 1, 1, 3);
        CHECK.same("day(1)", x.day(1), 1);
        loanIs(x, 0, 4, 1, 2, 3);
    }

    private static void howManyAreDue() {
        for (int loans = 0; loans <= 10; loans++) {
            RainLoans x = Check.told(ONE + purses(0, 0) + loan("a to b", 5, 1, 2, "h plain").repeat(loans));
            CHECK.same("LENT", x.day(1), 0);
            CHECK.same("DUE on the day", x.day(1), loans);
            CHECK.same("DUE on another day", x.day(0), loans);
        }
        RainLoans x = Check.told(ONE + purses(0, 6) + loan("a to b", 5, 1, 1, "h plain").repeat(2)
                + loan("a to b", 5, 1, 2, "h plain"));
        CHECK.same("one PAID, one DUE, one LENT", x.day(1), 1);
    }

    private static void manyDays() {
        RainLoans x = Check.told(ONE + purses(0, 0) + loan("a to b", 999, 99, 9, "h plain"));
        int calls = 4 + 1;
        for (int i = 1; calls < 508; i++, calls++) {
            CHECK.same("day(1)", x.day(1), i >= 9 ? 1 : 0);
        }
        CHECK.same("count(4)", x.count(4), 503);
        CHECK.same("loan(0, 2)", x.loan(0, 2), 999 + 99 * 503);
        CHECK.same("loan(0, 4)", x.loan(0, 4), 503);
        CHECK.same("the call 512", x.has(1), -999 - 99 * 503);
    }

    private static void promise7() {
        CHECK.promise(7, "NONE: no such weather", DaysEdgesTest::whichWeathers);
        CHECK.promise(7, "no such weather: nothing changes", DaysEdgesTest::refusedDays);
        CHECK.promise(7, "RIPE, by KIND; behind the last HILL the first", DaysEdgesTest::ripe);
        CHECK.promise(7, "the RIPE days are one more, and it OWES rate more", DaysEdgesTest::rateMore);
        CHECK.promise(7, "of each loan that is not PAID", DaysEdgesTest::paidOnesRest);
        CHECK.promise(7, "DUE from the DAY on which its RIPE days are as many as told", DaysEdgesTest::dueFrom);
        CHECK.promise(7, "a FLOOD: on all HILLS, two at least", DaysEdgesTest::whatIsAFlood);
        CHECK.promise(7, "all that are LENT are DUE then, but hidden ones", DaysEdgesTest::floodsCallAllIn);
        CHECK.promise(7, "hidden ones not by a FLOOD", DaysEdgesTest::hiddenOnes);
        CHECK.promise(7, "a joined one is DUE if any loan of the same debtor is", DaysEdgesTest::joinedOnes);
        CHECK.promise(7, "a joined one is not DUE without that", DaysEdgesTest::joinedWithout);
        CHECK.promise(7, "joined ones are looked for ahead of the calling", DaysEdgesTest::joinedOnTheDay);
    }

    private static void promise7Calling() {
        CHECK.promise(7, "CALLED, if it is RIPE for them", DaysEdgesTest::whichAreCalled);
        CHECK.promise(7, "CALLED, if it is a FLOOD", DaysEdgesTest::calledByAFlood);
        CHECK.promise(7, "as far as the purse goes", DaysEdgesTest::asFarAsThePurseGoes);
        CHECK.promise(7, "what is left from the bail's purse", DaysEdgesTest::bails);
        CHECK.promise(7, "bail on days with rain anywhere", DaysEdgesTest::bailByRain);
        CHECK.promise(7, "each CALLED loan, by number", DaysEdgesTest::byNumber);
        CHECK.promise(7, "rounds as long as a round moves coins", DaysEdgesTest::anotherRound);
        CHECK.promise(7, "as long as a round moves coins: hundreds of thousands", DaysEdgesTest::mostRounds);
        CHECK.promise(7, "what is left stays DUE", DaysEdgesTest::leftStaysDue);
        CHECK.promise(7, "how many loans are DUE behind it", DaysEdgesTest::howManyAreDue);
        CHECK.promise(7, "an object is used for 512 calls", DaysEdgesTest::manyDays);
    }

    public static void main(String[] args) {
        promise4();
        promises5And6();
        promise7();
        promise7Calling();
        CHECK.end();
    }
}
