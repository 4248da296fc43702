import java.util.function.Supplier;

/** Promises 19 to 21 sentence by sentence: years drawn, marks, counts. */
public final class LotsAndMarksEdgesTest {
    private static final Check CHECK = new Check();
    private static final int LEAST = Integer.MIN_VALUE;
    private static final int MOST = Integer.MAX_VALUE;

    private static String lent(String who, int coins, int rate, int due, String on) {
        return "loan " + who + " coins " + coins + " rate " + rate + " due " + due + " on " + on + ";";
    }

    // ---- promise 19

    /** Sure rain on two hills: b's loan is DUE on the first day and grows by 1 on each of 60. */
    private static RainLoans sureRain() {
        return Check.told("hill h dry 8 wet 8;hill k dry 8 wet 8;purse a 0;purse b 0;purse c 9;"
                + lent("a to b", 5, 1, 9, "h plain") + lent("a to c", 9, 0, 9, "h plain"));
    }

    private static void whichSeeds() {
        RainLoans x = sureRain();
        for (int seed : new int[] {LEAST, -1, 0, 1, 9998, 9999, 10000, MOST}) {
            boolean is = seed >= 0 && seed <= 9999;
            for (int what = 0; what <= 3; what++) {
                int[] due = {1, 65, 60, 1};
                CHECK.same("lots(" + seed + ", 1, " + what + ")", x.lots(seed, 1, what), is ? due[what] : -1);
            }
        }
    }

    private static void whichYears() {
        RainLoans x = sureRain();
        for (int years : new int[] {LEAST, -1, 0, 1, 2, 19, 20, 21, MOST}) {
            boolean is = years >= 1 && years <= 20;
            for (int what = 0; what <= 3; what++) {
                int[] due = {years, 65 * years, 60 * years, years};
                CHECK.same("lots(7, " + years + ", " + what + ")", x.lots(7, years, what), is ? due[what] : -1);
            }
        }
    }

    private static void whichOfLots() {
        RainLoans x = sureRain();
        int[] due = {1, 65, 60, 1};
        for (int what : new int[] {LEAST, -2, -1, 0, 1, 2, 3, 4, 5, MOST}) {
            CHECK.same("lots(7, 1, " + what + ")", x.lots(7, 1, what), what >= 0 && what <= 3 ? due[what] : -1);
        }
    }

    private static int[][] hills(RainLoans x) {
        int[][] hills = new int[x.count(0)][3];
        for (int hill = 0; hill < hills.length; hill++) {
            for (int what = 0; what <= 2; what++) {
                hills[hill][what] = x.hill(hill, what);
            }
        }
        return hills;
    }

    /** Lives all years by hand, day by day, each in an object of its own, and compares what comes of them. */
    private static void livedByHand(String name, Supplier<RainLoans> made, int seed, int years) {
        long g = seed;
        int[] sums = new int[4];
        for (int year = 0; year < years; year++) {
            RainLoans x = made.get();
            int floods = x.count(5);
            int[][] hills = hills(x);
            for (int day = 0; day < 60; day++) {
                int wet = 0;
                for (int hill = 0; hill < hills.length; hill++) {
                    g = (g * 1103515245 + 12345) & 0x7FFFFFFF;
                    hills[hill][2] = (g >> 16 & 7) < hills[hill][hills[hill][2]] ? 1 : 0;
                    wet |= hills[hill][2] << hill;
                }
                x.day(wet);
            }
            for (int loan = 0; loan < x.count(2); loan++) {
                sums[0] += x.loan(loan, 3) == 2 ? 1 : 0;
                sums[1] += x.loan(loan, 3) == 1 ? x.loan(loan, 2) : 0;
            }
            sums[2] += x.count(5) - floods;
            sums[3] += Integer.bitCount(x.ruined());
        }
        for (int what = 0; what < 4; what++) {
            CHECK.same("lots(" + seed + ", " + years + ", " + what + ") of " + name, made.get().lots(seed, years, what), sums[what]);
        }
    }

    private static RainLoans manyKinds() {
        return Check.told("hill h dry 2 wet 6;hill k dry 3 wet 5;hill m dry 1 wet 4;hill n dry 6 wet 3;"
                + "purse a 20;purse b 40;purse c 6;purse d 10;" + lent("a to b", 50, 3, 2, "h plain bail c")
                + lent("a to c", 70, 2, 3, "k both") + lent("c to d", 25, 1, 1, "m dry") + lent("b to d", 15, 4, 2, "m either")
                + lent("d to b", 9, 0, 9, "n hidden") + lent("a to d", 33, 1, 4, "k joined bail b"));
    }

    private static void draws() {
        for (int seed : new int[] {0, 1, 4711, 9998, 9999}) {
            livedByHand("many kinds", LotsAndMarksEdgesTest::manyKinds, seed, 1);
            livedByHand("many kinds", LotsAndMarksEdgesTest::manyKinds, seed, 3);
        }
        livedByHand("many kinds", LotsAndMarksEdgesTest::manyKinds, 9999, 20);
        livedByHand("a few days behind", () -> {
            RainLoans x = manyKinds();
            x.day(9);
            x.day(15);
            x.early(0);
            return x;
        }, 12, 4);
        livedByHand("the sample", Sample::amid, 5, 5);
    }

    private static void belowItsOdds() {
        // Odds of 0 and 8 leave nothing to the draw; between them a draw that is just as great is dry.
        for (int dry = 0; dry <= 8; dry++) {
            int odds = dry;
            livedByHand("odds " + dry, () -> Check.told("hill h dry " + odds + " wet " + odds + ";hill k dry 8 wet 8;"), 3, 2);
        }
        CHECK.same("never", Check.told("hill h dry 0 wet 8;hill k dry 8 wet 8;").lots(3, 20, 2), 0);
        CHECK.same("always", Check.told("hill h dry 8 wet 8;hill k dry 8 wet 8;").lots(3, 20, 2), 1200);
        CHECK.same("behind a dry day only: each other day", Check.told("hill h dry 8 wet 0;hill k dry 8 wet 8;").lots(3, 20, 2), 600);
    }

    private static void eachFromNow() {
        RainLoans x = Check.told("hill h dry 0 wet 8;hill k dry 8 wet 8;purse a 0;purse b 9;" + lent("a to b", 5, 0, 9, "k dry"));
        CHECK.same("floods behind a dry day", x.lots(1, 2, 2), 0);
        CHECK.same("paid", x.lots(1, 2, 0), 0);
        x.day(1);
        CHECK.same("floods behind a wet day", x.lots(1, 2, 2), 120);
        CHECK.same("paid", x.lots(1, 2, 0), 2);
        x.day(3);
        CHECK.same("floods up to now are none of these years", x.lots(1, 2, 2), 120);
        CHECK.same("what is PAID already is PAID at the end of each", x.lots(1, 2, 0), 2);
        x.undo();
        x.undo();
        x.early(0);
        CHECK.same("PAID by hand", x.lots(1, 20, 0), 20);
    }

    private static void atTheEnd() {
        // DUE at the end, but it does not rain on h on the last day: 60 is even, the hill is wet on odd days.
        RainLoans x = Check.told("hill h dry 8 wet 0;purse a 0;purse b 0;" + lent("a to b", 5, 1, 1, "h plain")
                + lent("a to b", 7, 0, 9, "h plain"));
        CHECK.same("RUINED only by the last DAY", x.lots(1, 1, 3), 0);
        CHECK.same("coins of 30 wet days, and of the other one", x.lots(1, 1, 1), 35 + 7);
        x.day(1);
        CHECK.same("wet on even days now", x.lots(1, 1, 3), 1);
        CHECK.same("with two loans one PERSON", x.lots(1, 2, 3), 2);
        RainLoans lent = Check.told("hill h dry 0 wet 0;purse a 0;purse b 0;" + lent("a to b", 5, 1, 1, "h plain"));
        CHECK.same("what a LENT one OWES does not count", lent.lots(1, 20, 1), 0);
        CHECK.same("nor is it PAID", lent.lots(1, 20, 0), 0);
        RainLoans ten = Check.told("hill h dry 8 wet 8;purse a 0;purse b 0;" + lent("a to b", 5, 0, 1, "h plain").repeat(10));
        CHECK.same("ten DUE ones", ten.lots(1, 20, 1), 1000);
        CHECK.same("of one debtor", ten.lots(1, 20, 3), 20);
        RainLoans rich = Check.told("hill h dry 8 wet 8;purse a 0;purse b 99;" + lent("a to b", 5, 0, 1, "h plain").repeat(10));
        CHECK.same("ten PAID ones", rich.lots(1, 20, 0), 200);
    }

    private static void promise19() {
        CHECK.promise(19, "a SEED 0 to 9999", LotsAndMarksEdgesTest::whichSeeds);
        CHECK.promise(19, "years 1 to 20", LotsAndMarksEdgesTest::whichYears);
        CHECK.promise(19, "what 0 to 3; NONE: others", LotsAndMarksEdgesTest::whichOfLots);
        CHECK.promise(19, "60 DAYS; of each HILL in order a DRAW below 8; g goes on", LotsAndMarksEdgesTest::draws);
        CHECK.promise(19, "it rains if that is below its odds", LotsAndMarksEdgesTest::belowItsOdds);
        CHECK.promise(19, "each from now on as it is", LotsAndMarksEdgesTest::eachFromNow);
        CHECK.promise(19, "at the end", LotsAndMarksEdgesTest::atTheEnd);
        CHECK.promise(19, "asking changes nothing", () -> {
            CHECK.leavesAll("lots(1, 1, 0)", Sample::amid, x -> Math.min(1, x.lots(1, 20, 0)), 1);
            CHECK.leavesAll("lots(1, 21, 0)", Sample::amid, x -> x.lots(1, 21, 0), -1);
        });
    }

    // ---- promise 20

    private static void whichMarks() {
        for (int mark : new int[] {LEAST, -1, 0, 1, 2, 3, 4, 5, MOST}) {
            boolean is = mark >= 0 && mark <= 3;
            RainLoans x = Check.told("purse a 5;");
            CHECK.same("mark(" + mark + ", true) with nothing on it", x.mark(mark, true), false);
            CHECK.same("mark(" + mark + ", false)", x.mark(mark, false), is);
            CHECK.same("mark(" + mark + ", true)", x.mark(mark, true), is);
        }
    }

    private static void refusedMarks() {
        for (int mark : new int[] {LEAST, -1, 4, MOST}) {
            CHECK.leavesAll("mark(" + mark + ", false)", Sample::amid, x -> x.mark(mark, false) ? 1 : 0, 0);
            CHECK.leavesAll("mark(" + mark + ", true)", Sample::amid, x -> x.mark(mark, true) ? 1 : 0, 0);
        }
        for (int mark : new int[] {0, 2, 3}) {
            CHECK.leavesAll("mark(" + mark + ", true), nothing is on it", Sample::amid, x -> x.mark(mark, true) ? 1 : 0, 0);
        }
    }

    private static void fourApart() {
        RainLoans x = new RainLoans();
        for (int mark = 0; mark <= 3; mark++) {
            Check.tell(x, "purse a " + (10 + mark) + ";");
            CHECK.same("mark(" + mark + ", false)", x.mark(mark, false), true);
        }
        for (int mark : new int[] {2, 0, 3, 1, 1, 2}) {
            CHECK.same("mark(" + mark + ", true)", x.mark(mark, true), true);
            CHECK.same("purse(0)", x.purse(0), 10 + mark);
        }
    }

    private static void allAsItIs() {
        RainLoans x = Sample.amid();
        x.day(3);
        String before = Look.custom(x) + Look.state(x);
        CHECK.same("a FLOOD, and somebody is RUINED", x.count(5) == 1 && x.ruined() != 0, true);
        x.mark(0, false);
        CHECK.same("laying it leaves all, and what can be undone", Look.custom(x) + Look.state(x), before);
        String forgotten = before.replace("count6=5", "count6=0");
        x.day(1);
        x.day(0);
        CHECK.same("gone back to", x.mark(0, true), true);
        CHECK.same("behind days", Look.custom(x) + Look.state(x), forgotten);
        x.day(3);
        x.mark(0, true);
        CHECK.same("once more", Look.custom(x) + Look.state(x), forgotten);
        Check.tell(x, "hill q dry 1 wet 1;purse z 1;bet 1 pays 2 if 1;");
        x.day(1);
        x.mark(0, true);
        CHECK.same("behind another custom", Look.custom(x) + Look.state(x), forgotten.replace("count7=10", "count7=0"));
    }

    private static void laidOver() {
        RainLoans x = Check.told("hill h dry 4 wet 4;");
        x.mark(2, false);
        x.day(1);
        x.mark(2, false);
        x.day(1);
        CHECK.same("mark(2, true)", x.mark(2, true), true);
        CHECK.same("the later one", x.count(4), 1);
        CHECK.same("hill(0, 2)", x.hill(0, 2), 1);
    }

    private static void newObjectMarked() {
        RainLoans x = new RainLoans();
        CHECK.same("nobody can be marked", x.mark(0, false), true);
        Check.tell(x, Sample.TEXT);
        x.day(3);
        CHECK.same("mark(0, true)", x.mark(0, true), true);
        CHECK.same("nobody", Look.state(x), Look.state(new RainLoans()));
        CHECK.none("purse(0)", () -> x.purse(0));
        CHECK.same("day(1)", x.day(1), -1);
        CHECK.same("day(0)", x.day(0), 0);
    }

    private static void nothingUndoneBehind() {
        RainLoans x = Sample.amid();
        CHECK.same("count(6)", x.count(6), 4);
        x.mark(3, false);
        CHECK.same("laying leaves them", x.count(6), 4);
        CHECK.same("undo() behind laying", x.undo(), true);
        CHECK.same("mark(3, true)", x.mark(3, true), true);
        CHECK.same("count(6)", x.count(6), 0);
        CHECK.same("undo()", x.undo(), false);
        x.day(1);
        CHECK.same("what comes behind it can", x.count(6), 1);
        CHECK.same("undo()", x.undo(), true);
        CHECK.same("count(4)", x.count(4), 3);
        CHECK.same("undo()", x.undo(), false);
        x.day(1);
        CHECK.same("nothing on it", x.mark(0, true), false);
        CHECK.same("a refused one leaves what can be undone", x.count(6), 1);
    }

    private static void promise20() {
        CHECK.promise(20, "MARKS 0 to 3; false: none such, nothing is on it", LotsAndMarksEdgesTest::whichMarks);
        CHECK.promise(20, "false: nothing changes", LotsAndMarksEdgesTest::refusedMarks);
        CHECK.promise(20, "four of them", LotsAndMarksEdgesTest::fourApart);
        CHECK.promise(20, "they hold the CUSTOM and all as it is", LotsAndMarksEdgesTest::allAsItIs);
        CHECK.promise(20, "laid where one is laid", LotsAndMarksEdgesTest::laidOver);
        CHECK.promise(20, "laid in a new object", LotsAndMarksEdgesTest::newObjectMarked);
        CHECK.promise(20, "nothing can be undone when one is gone back to", LotsAndMarksEdgesTest::nothingUndoneBehind);
    }

    // ---- promise 21

    private static void whichCounts() {
        for (RainLoans x : new RainLoans[] {new RainLoans(), Sample.amid()}) {
            for (int what : new int[] {LEAST, -2, -1, 8, 9, MOST}) {
                CHECK.same("count(" + what + ")", x.count(what), -1);
            }
        }
        int[] due = {2, 3, 3, 2, 3, 0, 4, 10};
        RainLoans x = Sample.amid();
        for (int what = 0; what <= 7; what++) {
            CHECK.same("count(" + what + ")", x.count(what), due[what]);
        }
    }

    private static void emptyAndFull() {
        RainLoans x = Check.told(Check.times("hill h# dry0wet8;", 4) + Check.times("purse # 9;", 6)
                + "loan a to b coins9rate9due9on hd both;".repeat(10) + "bet9pays9if wet;".repeat(8));
        for (int i = 0; i < 40; i++) {
            x.day(15);
        }
        Check.feed(x, " ".repeat(1001));
        int[] full = {4, 6, 10, 8, 40, 40, 30, 1000};
        for (int what = 0; what <= 7; what++) {
            CHECK.same("count(" + what + ") when full", x.count(what), full[what]);
        }
        x.custom();
        for (int what = 0; what <= 7; what++) {
            CHECK.same("count(" + what + ") when empty", x.count(what), 0);
        }
    }

    private static void countedUpToNow() {
        RainLoans x = Check.told("hill h dry 4 wet 4;hill k dry 4 wet 4;purse a 9;purse b 9;" + lent("a to b", 1, 0, 9, "h plain"));
        int[] wets = {0, 3, 1, 3, 4, 2, -1, 3};
        int[] days = {1, 2, 3, 4, 4, 5, 5, 6};
        int[] floods = {0, 1, 1, 2, 2, 2, 2, 3};
        for (int i = 0; i < wets.length; i++) {
            x.day(wets[i]);
            CHECK.same("the DAY", x.count(4), days[i]);
            CHECK.same("FLOODS up to now", x.count(5), floods[i]);
            CHECK.same("how many can be undone", x.count(6), days[i]);
        }
        CHECK.same("PAID in the FLOOD", x.early(0), false);
        x.undo();
        CHECK.same("the DAY", x.count(4), 5);
        CHECK.same("FLOODS up to now", x.count(5), 2);
        CHECK.same("how many can be undone", x.count(6), 5);
        for (int i = 0; i < 5; i++) {
            x.undo();
        }
        CHECK.same("early(0)", x.early(0), true);
        CHECK.same("an EARLY is no DAY", x.count(4), 0);
        CHECK.same("but can be undone", x.count(6), 1);
    }

    private static void promise21() {
        CHECK.promise(21, "NONE for another what", LotsAndMarksEdgesTest::whichCounts);
        CHECK.promise(21, "the empty and the full", LotsAndMarksEdgesTest::emptyAndFull);
        CHECK.promise(21, "the DAY, FLOODS up to now, how many can be undone", LotsAndMarksEdgesTest::countedUpToNow);
        CHECK.promise(21, "asking changes nothing", () -> {
            CHECK.leavesAll("count(4)", Sample::amid, x -> x.count(4), 3);
            CHECK.leavesAll("count(8)", Sample::amid, x -> x.count(8), -1);
        });
    }

    public static void main(String[] args) {
        promise19();
        promise20();
        promise21();
        CHECK.end();
    }
}
