/** Promises 4 to 11: hills, purses, loans, days, what is paid early, undone, ruined, had. */
public final class DaysTest {
    private static final Check CHECK = new Check();
    private static final String TWO = "hill h dry 1 wet 7;hill k dry 2 wet 6;purse a 0;purse b 50;purse c 40;";

    private static String loan(String kind, int due, String hill) {
        return "loan a to b coins 10 rate 2 due " + due + " on " + hill + " " + kind + ";";
    }

    private static void loanIs(RainLoans x, int loan, int owes, int stage, int ripe, int paid) {
        CHECK.same("loan(" + loan + ", 2)", x.loan(loan, 2), owes);
        CHECK.same("loan(" + loan + ", 3)", x.loan(loan, 3), stage);
        CHECK.same("loan(" + loan + ", 4)", x.loan(loan, 4), ripe);
        CHECK.same("loan(" + loan + ", 7)", x.loan(loan, 7), paid);
    }

    private static void facts() {
        RainLoans x = Check.told(TWO + "loan c to b coins 10 rate 2 due 3 on k dry bail a;"
                + "loan a to c coins 11 rate 0 due 9 on h joined;");
        CHECK.same("hill(0, 0)", x.hill(0, 0), 1);
        CHECK.same("hill(0, 1)", x.hill(0, 1), 7);
        CHECK.same("hill(1, 0)", x.hill(1, 0), 2);
        CHECK.same("hill(1, 1)", x.hill(1, 1), 6);
        CHECK.same("hill(1, 2)", x.hill(1, 2), 0);
        x.day(2);
        CHECK.same("hill(0, 2)", x.hill(0, 2), 0);
        CHECK.same("hill(1, 2)", x.hill(1, 2), 1);
        CHECK.same("hill(2, 0)", x.hill(2, 0), -1);
        CHECK.same("hill(-1, 0)", x.hill(-1, 0), -1);
        CHECK.same("hill(0, 3)", x.hill(0, 3), -1);
        CHECK.same("hill(0, -1)", x.hill(0, -1), -1);
        int[][] due = {{2, 1, 10, 0, 0, 1, 0, 0}, {0, 2, 11, 0, 0, 5, -1, 0}};
        for (int loan = 0; loan < 2; loan++) {
            for (int what = 0; what < 8; what++) {
                CHECK.same("loan(" + loan + ", " + what + ")", x.loan(loan, what), due[loan][what]);
            }
        }
        CHECK.same("loan(2, 0)", x.loan(2, 0), -1);
        CHECK.same("loan(-1, 0)", x.loan(-1, 0), -1);
        CHECK.same("loan(0, 8)", x.loan(0, 8), -1);
        CHECK.same("loan(0, -1)", x.loan(0, -1), -1);
        CHECK.same("purse(1)", x.purse(1), 50);
        CHECK.none("purse(3)", () -> x.purse(3));
        CHECK.none("purse(-1)", () -> x.purse(-1));
        CHECK.same("has(0)", x.has(0), 11);
        CHECK.same("has(1)", x.has(1), 40);
        CHECK.same("has(2)", x.has(2), 39);
        CHECK.none("has(3)", () -> x.has(3));
        CHECK.none("has(-1)", () -> x.has(-1));
    }

    /** Ripe days in the weathers 0 to 3, as bits, of each kind on the last hill. */
    private static void kinds() {
        String[] kinds = {"plain", "dry", "both", "either", "hidden", "joined"};
        int[] ripe = {0b1100, 0b0011, 0b1000, 0b1110, 0b1100, 0b1100};
        for (int kind = 0; kind < 6; kind++) {
            RainLoans x = Check.told(TWO + loan(kinds[kind], 9, "k"));
            CHECK.same("loan(0, 5)", x.loan(0, 5), kind);
            for (int wet = 0; wet < 4; wet++) {
                int is = ripe[kind] >> wet & 1;
                x.day(wet);
                CHECK.same(kinds[kind] + " in " + wet, x.loan(0, 4), is);
                if (wet < 3) {
                    loanIs(x, 0, 10 + 2 * is, 0, is, 0);
                }
                x.undo();
            }
        }
        RainLoans one = Check.told("hill h dry 1 wet 1;purse a 0;purse b 5;" + loan("both", 9, "h") + loan("either", 9, "h"));
        one.day(1);
        CHECK.same("both with one hill", one.loan(0, 4), 1);
        CHECK.same("either with one hill", one.loan(1, 4), 1);
        CHECK.same("no flood with one hill", one.count(5), 0);
        one.day(0);
        CHECK.same("either with one hill", one.loan(1, 4), 1);
    }

    private static void dueWhenRipe() {
        RainLoans x = Check.told(TWO + loan("plain", 2, "h"));
        CHECK.same("day(1)", x.day(1), 0);
        loanIs(x, 0, 12, 0, 1, 0);
        CHECK.same("day(2)", x.day(2), 0);
        loanIs(x, 0, 12, 0, 1, 0);
        CHECK.same("day(1)", x.day(1), 0);
        loanIs(x, 0, 0, 2, 2, 14);
        CHECK.same("purse(0)", x.purse(0), 14);
        CHECK.same("purse(1)", x.purse(1), 36);
        CHECK.same("day(1)", x.day(1), 0);
        loanIs(x, 0, 0, 2, 2, 14);
        CHECK.same("count(4)", x.count(4), 4);
        CHECK.same("day(4)", x.day(4), -1);
        CHECK.same("day(-1)", x.day(-1), -1);
        CHECK.same("count(4)", x.count(4), 4);
        CHECK.same("count(6)", x.count(6), 4);
    }

    private static void floods() {
        RainLoans x = Check.told(TWO + loan("dry", 9, "h") + loan("hidden", 9, "h") + loan("both", 9, "h"));
        CHECK.same("a flood", x.day(3), 0);
        CHECK.same("count(5)", x.count(5), 1);
        loanIs(x, 0, 0, 2, 0, 10);
        loanIs(x, 1, 12, 0, 1, 0);
        loanIs(x, 2, 0, 2, 1, 12);
        // One that is due is called by a flood though it is not ripe for it.
        RainLoans y = Check.told("hill h dry 1 wet 7;hill k dry 2 wet 6;purse a 0;purse b 5;purse c 40;"
                + loan("dry", 1, "h") + "loan b to c coins 30 rate 0 due 1 on k plain;");
        CHECK.same("day(0)", y.day(0), 1);
        CHECK.same("ruined()", y.ruined(), 2);
        CHECK.same("day(1)", y.day(1), 1);
        CHECK.same("not called on a day that is not ripe", y.ruined(), 0);
        CHECK.same("day(3)", y.day(3), 0);
        loanIs(y, 0, 0, 2, 1, 12);
        CHECK.same("purse(1)", y.purse(1), 23);
        CHECK.same("count(5)", y.count(5), 1);
    }

    private static void joined() {
        String j = "loan c to b coins 1 rate 0 due 9 on k joined;";
        RainLoans x = Check.told("hill h dry 1 wet 7;hill k dry 2 wet 6;purse a 0;purse b 5;purse c 40;" + j
                + loan("plain", 1, "h") + j + "loan b to c coins 1 rate 0 due 9 on k joined;");
        CHECK.same("day(1)", x.day(1), 3);
        // Due, but not called: it does not rain on their hill.
        loanIs(x, 0, 1, 1, 0, 0);
        loanIs(x, 1, 7, 1, 1, 5);
        loanIs(x, 2, 1, 1, 0, 0);
        loanIs(x, 3, 1, 0, 0, 0);
        CHECK.same("ruined()", x.ruined(), 2);
        RainLoans paid = Check.told("hill h dry 1 wet 7;purse a 0;purse b 99;" + loan("plain", 1, "h")
                + loan("joined", 9, "h"));
        paid.day(1);
        CHECK.same("both are called and paid on the day", paid.loan(1, 3), 2);
        RainLoans before = Check.told("hill h dry 1 wet 7;purse a 0;purse b 99;" + loan("plain", 9, "h")
                + loan("joined", 9, "h"));
        before.early(0);
        before.day(1);
        CHECK.same("one that is paid is not due", before.loan(1, 3), 0);
    }

    private static void bail() {
        String text = "hill h dry 1 wet 7;purse a 0;purse b 5;purse c 40;"
                + "loan a to b coins 10 rate 2 due 1 on h KIND bail c;";
        RainLoans x = Check.told(text.replace("KIND", "plain"));
        CHECK.same("day(1)", x.day(1), 0);
        loanIs(x, 0, 0, 2, 1, 12);
        CHECK.same("purse(2)", x.purse(2), 33);
        CHECK.same("ruined()", x.ruined(), 0);
        RainLoans dry = Check.told(text.replace("KIND", "dry"));
        CHECK.same("no bail without rain", dry.day(0), 1);
        loanIs(dry, 0, 7, 1, 1, 5);
        CHECK.same("purse(2)", dry.purse(2), 40);
        CHECK.same("ruined()", dry.ruined(), 2);
        RainLoans away = Check.told(text.replace("KIND", "dry").replace("purse a", "hill k dry 1 wet 1;purse a"));
        CHECK.same("bail by rain on another hill", away.day(2), 0);
        CHECK.same("purse(2)", away.purse(2), 33);
    }

    private static void rounds() {
        // The last loan brings its coin to the first one in another round.
        RainLoans x = Check.told("hill h dry 1 wet 7;purse a 0;purse b 0;purse c 6;"
                + "loan a to b coins 5 rate 0 due 1 on h plain;loan b to c coins 9 rate 0 due 1 on h plain;");
        CHECK.same("day(1)", x.day(1), 1);
        CHECK.same("purse(0)", x.purse(0), 5);
        CHECK.same("purse(1)", x.purse(1), 1);
        CHECK.same("purse(2)", x.purse(2), 0);
        CHECK.same("ruined()", x.ruined(), 4);
        // One coin goes round till all is paid.
        RainLoans ring = Check.told("hill h dry 1 wet 7;purse a 1;purse b 0;"
                + "loan a to b coins 999 rate 0 due 1 on h plain;loan b to a coins 999 rate 0 due 1 on h plain;");
        CHECK.same("day(1)", ring.day(1), 0);
        loanIs(ring, 0, 0, 2, 1, 999);
        loanIs(ring, 1, 0, 2, 1, 999);
        CHECK.same("purse(0)", ring.purse(0), 1);
        CHECK.same("purse(1)", ring.purse(1), 0);
    }

    private static void early() {
        RainLoans x = Check.told(TWO + loan("plain", 2, "h") + "loan c to b coins 40 rate 0 due 9 on h plain;"
                + "loan c to b coins 1 rate 0 due 9 on h plain;");
        CHECK.same("early(-1)", x.early(-1), false);
        CHECK.same("early(3)", x.early(3), false);
        CHECK.same("early(0)", x.early(0), true);
        loanIs(x, 0, 0, 2, 0, 10);
        CHECK.same("early(0) again", x.early(0), false);
        CHECK.same("early(1) with just so much", x.early(1), true);
        CHECK.same("purse(1)", x.purse(1), 0);
        CHECK.same("purse(2)", x.purse(2), 80);
        CHECK.same("early(2) with less", x.early(2), false);
        CHECK.same("count(6)", x.count(6), 2);
        CHECK.same("undo()", x.undo(), true);
        loanIs(x, 1, 40, 0, 0, 0);
        CHECK.same("undo()", x.undo(), true);
        CHECK.same("purse(1)", x.purse(1), 50);
        CHECK.same("undo()", x.undo(), false);
        RainLoans due = Check.told("hill h dry 1 wet 1;purse a 0;purse b 5;purse c 20;"
                + "loan a to b coins 9 rate 0 due 1 on h plain;loan b to c coins 20 rate 0 due 9 on h plain;");
        CHECK.same("day(1)", due.day(1), 1);
        CHECK.same("early(1)", due.early(1), true);
        CHECK.same("early(0), which is due", due.early(0), true);
        loanIs(due, 0, 0, 2, 1, 9);
        CHECK.same("a loan that is paid early behind the day ruins nobody", due.ruined(), 0);
    }

    private static void ruined() {
        // Both loans of b are called and not paid; a third one, which c can't pay, is not called.
        RainLoans x = Check.told("hill h dry 1 wet 1;purse a 0;purse b 0;purse c 20;"
                + "loan a to b coins 9 rate 0 due 1 on h plain;loan a to b coins 8 rate 0 due 1 on h plain;"
                + "loan b to c coins 20 rate 0 due 9 on h plain;loan b to c coins 99 rate 0 due 1 on h dry;");
        CHECK.same("ruined() on day 0", x.ruined(), 0);
        CHECK.same("day(1)", x.day(1), 2);
        CHECK.same("ruined()", x.ruined(), 2);
        CHECK.same("early(2), which was not called", x.early(2), true);
        CHECK.same("a full purse alone lifts nothing", x.ruined(), 2);
        x.mark(0, false);
        CHECK.same("early(0)", x.early(0), true);
        CHECK.same("the other one is not paid yet", x.ruined(), 2);
        CHECK.same("early(1)", x.early(1), true);
        CHECK.same("both are paid", x.ruined(), 0);
        CHECK.same("undo()", x.undo(), true);
        CHECK.same("one is not paid again", x.ruined(), 2);
        CHECK.same("early(1)", x.early(1), true);
        CHECK.same("paid again", x.ruined(), 0);
        CHECK.same("mark(0, true)", x.mark(0, true), true);
        CHECK.same("as it was on the mark", x.ruined(), 2);
        CHECK.same("day(0)", x.day(0), 3);
        CHECK.same("others are called on the next day", x.ruined(), 4);
        CHECK.same("a new custom", Check.tell(x, "purse a 1;purse b 1;purse c 1;"), 0);
        CHECK.same("ruined() on day 0", x.ruined(), 0);
    }

    private static void undo() {
        RainLoans x = Check.told(TWO + loan("plain", 9, "h") + loan("plain", 1, "k"));
        for (int i = 1; i <= 33; i++) {
            x.day(i == 20 ? 3 : 0);
            CHECK.same("count(6)", x.count(6), Math.min(i, 30));
        }
        CHECK.same("count(5)", x.count(5), 1);
        for (int i = 1; i <= 30; i++) {
            CHECK.same("undo()", x.undo(), true);
            CHECK.same("count(4)", x.count(4), 33 - i);
            CHECK.same("count(5)", x.count(5), 33 - i >= 20 ? 1 : 0);
            CHECK.same("hill(0, 2)", x.hill(0, 2), 33 - i == 20 ? 1 : 0);
            CHECK.same("loan(1, 3)", x.loan(1, 3), 33 - i >= 20 ? 2 : 0);
        }
        CHECK.same("undo()", x.undo(), false);
        CHECK.same("count(4)", x.count(4), 3);
        RainLoans y = Check.told("hill h dry 1 wet 1;purse a 0;purse b 5;" + loan("plain", 1, "h"));
        y.day(1);
        CHECK.same("ruined()", y.ruined(), 2);
        y.undo();
        CHECK.same("ruined() on day 0", y.ruined(), 0);
    }

    public static void main(String[] args) {
        facts();
        kinds();
        dueWhenRipe();
        floods();
        joined();
        bail();
        rounds();
        early();
        ruined();
        undo();
        CHECK.end();
    }
}
