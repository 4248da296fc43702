/** Promises 19 to 21: years drawn, marks, counts. */
public final class LotsAndMarksTest {
    private static final Check CHECK = new Check();
    private static final String TWO = "hill h dry 8 wet 8;hill k dry DRY wet WET;purse a 7;purse b 5;"
            + "loan a to b coins 9 rate 1 due 9 on h hidden;loan b to a coins 3 rate 0 due 9 on h dry;";

    private static void wrongLots() {
        RainLoans x = Check.told(TWO.replace("DRY", "8").replace("WET", "8"));
        for (int what = 0; what < 4; what++) {
            CHECK.same("seed", x.lots(-1, 1, what), -1);
            CHECK.same("seed", x.lots(10000, 1, what), -1);
            CHECK.same("years", x.lots(0, 0, what), -1);
            CHECK.same("years", x.lots(0, 21, what), -1);
            CHECK.same("years", x.lots(0, Integer.MIN_VALUE, what), -1);
        }
        CHECK.same("what", x.lots(0, 1, -1), -1);
        CHECK.same("what", x.lots(0, 1, 4), -1);
    }

    private static void sureWeather() {
        // Rain everywhere each day: a flood each day. The first one calls the dry loan in: b has 8 then.
        // The hidden one is due on day 9 with 18, gets 8, and grows by 1 on each of 51 more days.
        RainLoans x = Check.told(TWO.replace("DRY", "8").replace("WET", "8"));
        CHECK.same("paid", x.lots(5, 3, 0), 3);
        CHECK.same("coins", x.lots(5, 3, 1), 3 * (18 - 8 + 51));
        CHECK.same("floods", x.lots(5, 3, 2), 180);
        CHECK.same("ruined", x.lots(5, 3, 3), 3);
        CHECK.same("twenty years", x.lots(9999, 20, 2), 1200);
        x.day(3);
        CHECK.same("floods up to now do not count", x.lots(5, 1, 2), 60);
        CHECK.same("one that is paid already", x.lots(5, 1, 0), 1);
        CHECK.same("nothing has changed", x.count(4), 1);
        CHECK.same("nothing has changed", x.count(6), 1);
        // Each year begins with the weather of now: rain on k comes only behind rain on k.
        RainLoans y = Check.told(TWO.replace("DRY", "0").replace("WET", "8"));
        CHECK.same("floods behind a dry day", y.lots(1, 2, 2), 0);
        y.day(2);
        CHECK.same("floods behind a wet day", y.lots(1, 2, 2), 120);
    }

    private static void draws() {
        // The floods as they come of the draws, told here by hand.
        RainLoans x = Check.told("hill h dry 2 wet 6;hill k dry 5 wet 3;");
        for (int years = 1; years <= 20; years += 19) {
            for (int seed : new int[] {0, 1, 4711, 9999}) {
                long g = seed;
                int floods = 0;
                for (int year = 0; year < years; year++) {
                    boolean h = false;
                    boolean k = false;
                    for (int i = 0; i < 60; i++) {
                        g = Math.floorMod(g * 1103515245L + 12345, 1L << 31);
                        h = (g >> 16) % 8 < (h ? 6 : 2);
                        g = Math.floorMod(g * 1103515245L + 12345, 1L << 31);
                        k = (g >> 16) % 8 < (k ? 3 : 5);
                        floods += h && k ? 1 : 0;
                    }
                }
                CHECK.same("lots(" + seed + ", " + years + ", 2)", x.lots(seed, years, 2), floods);
            }
        }
        CHECK.same("without hills", new RainLoans().lots(1, 1, 2), 0);
    }

    private static void marks() {
        RainLoans x = new RainLoans();
        for (int mark = -1; mark <= 4; mark++) {
            CHECK.same("nothing is on it", x.mark(mark, true), false);
        }
        CHECK.same("mark(-1, false)", x.mark(-1, false), false);
        CHECK.same("mark(4, false)", x.mark(4, false), false);
        CHECK.same("mark(0, false)", x.mark(0, false), true);
        Check.tell(x, TWO.replace("DRY", "3").replace("WET", "4") + "bet 1 pays 5 if first;");
        x.day(3);
        x.day(1);
        CHECK.same("mark(3, false)", x.mark(3, false), true);
        CHECK.same("laying one leaves what can be undone", x.count(6), 2);
        Check.tell(x, "purse z 1;");
        Check.feed(x, "purse y 2;");
        CHECK.same("a custom leaves marks", x.mark(3, true), true);
        CHECK.same("the tape is no part of it", x.count(7), 10);
        int[] counts = {2, 2, 2, 1, 2, 1, 0};
        for (int what = 0; what < counts.length; what++) {
            CHECK.same("count(" + what + ")", x.count(what), counts[what]);
        }
        CHECK.same("undo()", x.undo(), false);
        CHECK.same("hill(0, 2)", x.hill(0, 2), 1);
        CHECK.same("hill(1, 1)", x.hill(1, 1), 4);
        CHECK.same("purse(1)", x.purse(1), 8);
        CHECK.same("loan(1, 3)", x.loan(1, 3), 2);
        CHECK.same("loan(0, 4)", x.loan(0, 4), 2);
        CHECK.same("gain(1, 1)", x.gain(1, 1), 4);
        x.day(3);
        x.early(0);
        CHECK.same("gone back to again", x.mark(3, true), true);
        CHECK.same("loan(0, 4)", x.loan(0, 4), 2);
        CHECK.same("count(6)", x.count(6), 0);
        CHECK.same("the first one", x.mark(0, true), true);
        CHECK.same("count(0)", x.count(0), 0);
        CHECK.same("count(2)", x.count(2), 0);
        CHECK.same("custom()", x.custom(), 0);
        CHECK.same("purse(0)", x.purse(0), 2);
        CHECK.same("mark(3, false) over another", x.mark(3, false), true);
        Check.tell(x, "");
        x.mark(3, true);
        CHECK.same("purse(0)", x.purse(0), 2);
        CHECK.same("mark(1, true)", x.mark(1, true), false);
    }

    private static void counts() {
        RainLoans x = Check.told(TWO.replace("DRY", "3").replace("WET", "4") + "bet 1 pays 5 if first;");
        x.day(3);
        x.day(0);
        x.day(3);
        x.early(0);
        Check.feed(x, "abc");
        int[] counts = {2, 2, 2, 1, 3, 2, 3, 3};
        for (int what = 0; what < counts.length; what++) {
            CHECK.same("count(" + what + ")", x.count(what), counts[what]);
        }
        CHECK.same("count(8)", x.count(8), -1);
        CHECK.same("count(-1)", x.count(-1), -1);
    }

    public static void main(String[] args) {
        wrongLots();
        sureWeather();
        draws();
        marks();
        counts();
        CHECK.end();
    }
}
