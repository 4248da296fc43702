/** Promises 1 to 3 sentence by sentence: a new object, the tape, tokens, what may be told, faults. */
public final class TellingEdgesTest {
    private static final Check CHECK = new Check();
    private static final int[] FAR = {Integer.MIN_VALUE, -1, 0, 1, Integer.MAX_VALUE};
    private static final String WORLD = "hill h dry 4 wet 4;purse a 1;purse b 2;purse c 3;";
    private static final String RESERVED = "hill dry wet purse loan to coins rate due on bail bet pays if"
            + " plain both either hidden joined first second third fourth not and or";

    private static void fault(int kind, String marked) {
        CHECK.fault(kind, marked);
    }

    private static String blanks(int n) {
        return " ".repeat(n);
    }

    // ---- promise 1

    private static void nobody() {
        RainLoans x = new RainLoans();
        for (int what = 0; what <= 7; what++) {
            CHECK.same("count(" + what + ")", x.count(what), 0);
        }
        for (int i : FAR) {
            for (int what = 0; what <= 7; what++) {
                CHECK.same("hill(" + i + ", " + what + ")", x.hill(i, what), -1);
                CHECK.same("loan(" + i + ", " + what + ")", x.loan(i, what), -1);
            }
            CHECK.none("purse(" + i + ")", () -> x.purse(i));
            CHECK.none("has(" + i + ")", () -> x.has(i));
        }
        CHECK.same("ruined()", x.ruined(), 0);
    }

    private static void nothingToGoBackTo() {
        RainLoans x = new RainLoans();
        CHECK.same("undo()", x.undo(), false);
        for (int mark = 0; mark <= 3; mark++) {
            CHECK.same("mark(" + mark + ", true)", x.mark(mark, true), false);
        }
    }

    private static void nothingLent() {
        RainLoans x = new RainLoans();
        for (int i : FAR) {
            CHECK.same("early", x.early(i), false);
            CHECK.same("worth", x.worth(i, 1, 0), -1);
            CHECK.same("chance", x.chance(i, 1, 0), -1);
            CHECK.same("better", x.better(i, 1), -2);
            CHECK.same("fits", x.fits(1, i, 0), -1);
            CHECK.same("fit", x.fit(1, i, 0, 0), -1);
        }
    }

    private static void oneWeather() {
        RainLoans x = new RainLoans();
        CHECK.same("day(1)", x.day(1), -1);
        CHECK.same("day(-1)", x.day(-1), -1);
        CHECK.same("count(4)", x.count(4), 0);
        CHECK.same("day(0)", x.day(0), 0);
        CHECK.same("count(4)", x.count(4), 1);
        CHECK.same("no FLOOD: rain on all of no HILLS", x.count(5), 0);
        CHECK.same("undo()", x.undo(), true);
        CHECK.same("count(4)", x.count(4), 0);
    }

    private static void emptySets() {
        RainLoans x = new RainLoans();
        CHECK.same("gain(0, 0)", x.gain(0, 0), 0);
        CHECK.none("gain(1, 0)", () -> x.gain(1, 0));
        CHECK.none("gain(0, 1)", () -> x.gain(0, 1));
        CHECK.same("sure(0)", x.sure(0), 0);
        CHECK.same("sure(1)", x.sure(1), 0);
        for (int what = 0; what <= 3; what++) {
            CHECK.same("lots(0, 1, " + what + ")", x.lots(0, 1, what), 0);
            CHECK.same("lots(9999, 20, " + what + ")", x.lots(9999, 20, what), 0);
        }
    }

    private static void objectsApart() {
        RainLoans x = Sample.amid();
        String before = Look.state(new RainLoans());
        RainLoans y = Check.told("hill q dry 8 wet 8;purse r 9;");
        y.day(1);
        y.mark(1, false);
        CHECK.same("one object leaves another alone", Look.whole(x), Look.whole(Sample.amid()));
        CHECK.same("a later object is new", Look.state(new RainLoans()), before);
    }

    private static void promise1() {
        CHECK.promise(1, "no HILL, nobody", TellingEdgesTest::nobody);
        CHECK.promise(1, "nothing to undo, nothing on a MARK", TellingEdgesTest::nothingToGoBackTo);
        CHECK.promise(1, "no loan and no person to ask for", TellingEdgesTest::nothingLent);
        CHECK.promise(1, "without HILLS one weather", TellingEdgesTest::oneWeather);
        CHECK.promise(1, "no bets but the empty set", TellingEdgesTest::emptySets);
        CHECK.promise(1, "each new object", TellingEdgesTest::objectsApart);
    }

    // ---- promise 2

    private static boolean isSign(int code) {
        return code == 10 || code >= 32 && code <= 126;
    }

    private static void whichSigns() {
        for (int code = 0; code < 256; code++) {
            long high = (long) code << 56;
            CHECK.same("the sign " + code + " in a", new RainLoans().feed(high, 0, 0), isSign(code) ? 1 : 0);
            CHECK.same("the sign " + code + " in b", new RainLoans().feed(0, code << 8, 0), isSign(code) ? 1 : 0);
            CHECK.same("the sign " + code + " in c", new RainLoans().feed(0, 0, code), isSign(code) ? 1 : 0);
        }
    }

    private static void highestFirst() {
        for (int place = 0; place < 24; place++) {
            RainLoans x = new RainLoans();
            CHECK.same("feed", Check.feed(x, blanks(place) + "~" + blanks(23 - place)), 24);
            CHECK.same("the byte " + place + " is the sign " + place, x.custom(), 1 + 16 * place);
        }
    }

    private static void leftOut() {
        for (int code = 0; code < 256; code++) {
            if (!isSign(code)) {
                RainLoans x = new RainLoans();
                String text = "pu#r#se a# 1#2;#".replace('#', (char) code);
                CHECK.same("feed with " + code, Check.feed(x, text), 11);
                CHECK.same("custom()", x.custom(), 0);
                CHECK.same("purse(0)", x.purse(0), 12);
            }
        }
        RainLoans x = new RainLoans();
        CHECK.same("one sign of 24", x.feed(0, 0, '~'), 1);
        CHECK.same("it is the first", x.custom(), 1);
    }

    private static void howMany() {
        RainLoans x = new RainLoans();
        CHECK.same("nothing", x.feed(0, 0, 0), 0);
        CHECK.same("three", Check.feed(x, "abc"), 3);
        CHECK.same("two behind them", Check.feed(x, "de"), 5);
        CHECK.same("nothing behind them", x.feed(0, -1, 0x1F7F), 5);
        CHECK.same("24 behind them", Check.feed(x, blanks(24)), 29);
        CHECK.same("count(7)", x.count(7), 29);
    }

    private static RainLoans filled(int n) {
        RainLoans x = new RainLoans();
        Check.feed(x, blanks(n));
        return x;
    }

    private static void full() {
        CHECK.same("999", filled(999).count(7), 999);
        CHECK.same("1,000", filled(1000).count(7), 1000);
        CHECK.same("1,001", filled(1001).count(7), 1000);
        CHECK.same("24 behind 976", Check.feed(filled(976), blanks(24)), 1000);
        CHECK.same("24 behind 977", Check.feed(filled(977), blanks(24)), 1000);
        CHECK.same("one behind 998", Check.feed(filled(998), " "), 999);
        CHECK.same("one behind 999", Check.feed(filled(999), " "), 1000);
        CHECK.same("one behind 1,000", Check.feed(filled(1000), " "), 1000);
        CHECK.same("24 behind 1,000", Check.feed(filled(1000), blanks(24)), 1000);
        CHECK.same("nothing behind 1,000", filled(1000).feed(0, 0, 0), 1000);
    }

    private static void beyond() {
        RainLoans last = filled(984);
        CHECK.same("feed", Check.feed(last, blanks(15) + "~" + blanks(8)), 1000);
        CHECK.same("the sign 999 is on the tape", last.custom(), 1 + 16 * 999);
        RainLoans beyond = filled(984);
        CHECK.same("feed", Check.feed(beyond, blanks(16) + "~" + blanks(7)), 1000);
        CHECK.same("the sign 1,000 is not", beyond.custom(), 0);
        RainLoans again = filled(1000);
        Check.feed(again, "~");
        CHECK.same("nothing is put over what is there", again.custom(), 0);
        RainLoans sparse = filled(999);
        CHECK.same("what is left out takes no room", sparse.feed(0, -1, 0x7F00007E), 1000);
        CHECK.same("custom()", sparse.custom(), 1 + 16 * 999);
    }

    private static void emptied() {
        RainLoans x = filled(1000);
        CHECK.same("custom()", x.custom(), 0);
        CHECK.same("empty without a fault", x.count(7), 0);
        CHECK.same("room for 24 again", Check.feed(x, "~" + blanks(23)), 24);
        CHECK.same("and for 1,000", Check.feed(x, blanks(1000)), 1000);
        CHECK.same("custom()", x.custom(), 1);
        CHECK.same("empty with a fault", x.count(7), 0);
        CHECK.same("custom() of the empty tape", x.custom(), 0);
        CHECK.same("feed", Check.feed(x, "~"), 1);
    }

    private static void onlyReadByCustom() {
        RainLoans x = Sample.amid();
        x.day(1);
        x.early(0);
        x.undo();
        x.mark(2, false);
        x.mark(1, true);
        x.worth(0, 1, 0);
        x.lots(1, 1, 1);
        x.gain(1, 1);
        CHECK.same("count(7)", x.count(7), 10);
        CHECK.same("custom()", x.custom(), 0);
        CHECK.same("what was fed is read", x.purse(0), 3);
    }

    private static void feedingAlone() {
        RainLoans x = Sample.amid();
        String before = Look.state(x).replace("count7=10", "count7=13") + Look.custom(x);
        Check.feed(x, "abc");
        CHECK.same("only the tape is longer", Look.state(x) + Look.custom(x), before);
        CHECK.leavesAll("feed of nothing", Sample::amid, y -> y.feed(0, -1, 0x7F), 10);
    }

    private static void promise2() {
        CHECK.promise(2, "others than 10 and 32 .. 126 are left out: each of 256", TellingEdgesTest::whichSigns);
        CHECK.promise(2, "the bytes of a, b, c, of each the highest first", TellingEdgesTest::highestFirst);
        CHECK.promise(2, "what is left out leaves no gap", TellingEdgesTest::leftOut);
        CHECK.promise(2, "how many there are", TellingEdgesTest::howMany);
        CHECK.promise(2, "at most 1,000 signs", TellingEdgesTest::full);
        CHECK.promise(2, "what is beyond 1,000 is left out", TellingEdgesTest::beyond);
        CHECK.promise(2, "what reads the TAPE takes it", TellingEdgesTest::emptied);
        CHECK.promise(2, "nothing else takes it", TellingEdgesTest::onlyReadByCustom);
        CHECK.promise(2, "nothing else changes", TellingEdgesTest::feedingAlone);
    }

    // ---- promise 3: tokens

    private static void words() {
        fault(0, "purse a 1;");
        fault(0, "purse abcdefgh 1;");
        fault(1, "purse ^abcdefghi 1;");
        fault(1, "purse ^" + "z".repeat(100) + " 1;");
        fault(1, "^pursepurs a 1;");
        fault(1, "^pursepurse a 1;");
        fault(0, "purse az 1;hill za dry 1 wet 1;");
        // Two names that differ in the last of 8 letters only.
        fault(0, "purse abcdefgh 1;purse abcdefgi 1;");
        fault(3, "purse abcdefgh 1;purse ^abcdefgh 1;");
        for (char c = 'a'; c <= 'z'; c++) {
            String x = "" + c;
            String names = x + " " + x.repeat(2) + " " + x.repeat(3) + " " + x.repeat(7) + " " + x.repeat(8);
            fault(0, "purse " + names.replace(" ", " 1;purse ") + " 1;");
        }
        for (char c = 'c'; c <= 'z'; c++) {
            fault(0, "purse #ab 1;purse a#b 1;purse ab# 1;".replace('#', c));
        }
    }

    private static void numbers() {
        for (String number : new String[] {"0", "1", "00", "0001", "0000", "9999"}) {
            RainLoans x = Check.told("purse a " + number + ";");
            CHECK.same("purse(0) of " + number, x.purse(0), Integer.parseInt(number));
        }
        fault(1, "purse a ^00000;");
        fault(1, "purse a ^10000;");
        fault(1, "purse a ^99999;");
        // As long as can be, though an int or a long that wraps would be small again.
        fault(1, "purse a ^4294967297;");
        fault(1, "purse a ^18446744073709551617;");
        fault(1, "purse a ^" + "0".repeat(300) + ";");
        fault(1, "bet 1 pays 1 if ^00001;");
        fault(1, "hill h dry ^00008 wet 8;");
        fault(0, "hill h dry 0008 wet 0000;");
        // 59, 40 and 41 are the codes of signs: a number is none of these.
        fault(1, "purse a 1 ^59");
        fault(1, "purse a 1 ^00059");
        fault(1, "bet 1 pays 1 if ^00040 1);");
        fault(1, "bet 1 pays 1 if (1 ^00041;");
    }

    private static void lettersBehindNumbers() {
        fault(0, "hill h dry 4wet 4;");
        fault(0, "hill h dry4wet4;purse a9999;bet1pays1if1and1or 1;");
        fault(1, "purse a 1^b;");
        fault(1, "purse ^1a 1;");
    }

    private static void asLongAsCanBe() {
        fault(1, "^hillh dry 4 wet 4;");
        fault(1, "hill hdry ^4 wet 4;");
        fault(1, "purse a 1 ^2;");
        CHECK.same("12 is one number", Check.told("purse a 12;").purse(0), 12);
        fault(1, "bet 1 pays 1 if ^notfirst;");
        fault(1, "bet 1 pays 1 if 1^andfirst;");
        fault(1, "bet 1 pays 1 if 1 ^andfirst;");
    }

    private static void blanksBetween() {
        fault(0, "purse a1;purse b1;bet1pays1if(1)+not(1)*2<3;");
        fault(0, "\npurse\n\n a\n1 \n ;\n");
        fault(0, "   purse    a   1   ;   ");
        fault(0, "bet 1 pays 1 if ( 1 ) + not ( 1 ) * 2 < 3 ;");
        fault(1, "^pur se a 1;");
        fault(1, "purse a 1 ^2;");
        fault(1, "hill h dry 4 ^we t 4;");
    }

    private static void noTokens() {
        for (char c = 33; c <= 126; c++) {
            boolean letter = c >= 'a' && c <= 'z';
            boolean digit = c >= '0' && c <= '9';
            if (!letter && !digit && c != '^') {
                fault(1, "^" + c);
                fault(1, "purse ^" + c + "a 1;");
                fault(1, "purse a ^" + c + "1;");
                fault(c == ';' ? 0 : 1, c == ';' ? "purse a 1;" : "purse a 1^" + c);
            }
        }
        RainLoans x = new RainLoans();
        CHECK.same("^ is none, too", Check.tell(x, "purse a 1^;"), 1 + 16 * 9);
        fault(1, "purse ^Abc 1;");
        fault(1, "purse a^Bc 1;");
        fault(1, "purse a^_b 1;");
        fault(1, "purse a 1^.5;");
        fault(1, "bet 1 pays 1 if 1 ^> 0;");
        fault(1, "bet 1 pays 1 if 1 ^/ 1;");
        fault(1, "bet 1 pays 1 if 1 ^& 1;");
        fault(1, "bet 1 pays 1 if ^!1;");
    }

    private static void thousandTokens() {
        for (String sign : new String[] {";", "~", "a", "1"}) {
            RainLoans x = new RainLoans();
            // A word or a number ends at a sign; so many letters or digits alone would be one token.
            String two = Character.isLetterOrDigit(sign.charAt(0)) ? sign + "=" : sign + sign;
            CHECK.same("custom() of 1,000 signs " + two, Check.tell(x, two.repeat(500)), 1);
            CHECK.same("it is read and taken", x.count(7), 0);
        }
        String bet = "bet 1 pays 1 if 1";
        // These have 1,000 signs each, with 17 ahead of what is repeated.
        fault(0, bet + "+1".repeat(491) + ";");
        fault(0, bet + "*1".repeat(491) + ";");
        fault(0, bet + "or 1".repeat(245) + "  ;");
        fault(1, bet + "-1".repeat(491) + "^)");
        fault(1, bet + "-1".repeat(491) + "-^");
    }

    private static void shorterBehindLonger() {
        RainLoans x = new RainLoans();
        String text = WORLD + "loan a to b coins 9 rate 1 due 3 on h plain bail c;bet 1 pays 2 if not(first<1);";
        for (String cut : new String[] {"purse a 1", "purse a", "purse", "hill h dry 4 wet", "bet 1 pays 2 if", "bet 1 pays 2 if("}) {
            CHECK.same("custom() of the long one", Check.tell(x, text), 0);
            CHECK.same("custom() of " + cut, Check.tell(x, cut), 1 + 16 * cut.length());
        }
        CHECK.same("custom()", Check.tell(x, "bet 1 pays 2 if not first;"), 0);
        CHECK.same("custom() without what stood behind if", Check.tell(x, "bet 1 pays 2 if"), 1 + 16 * 15);
    }

    private static void tokens() {
        CHECK.promise(3, "a TAPE of 1,000 tokens", TellingEdgesTest::thousandTokens);
        CHECK.promise(3, "nothing of an earlier text is read", TellingEdgesTest::shorterBehindLonger);
        CHECK.promise(3, "WORDS: 8 letters at most", TellingEdgesTest::words);
        CHECK.promise(3, "NUMBERS: 1 to 4 digits", TellingEdgesTest::numbers);
        CHECK.promise(3, "a letter may stand right behind a NUMBER", TellingEdgesTest::lettersBehindNumbers);
        CHECK.promise(3, "TOKENS are each as long as can be", TellingEdgesTest::asLongAsCanBe);
        CHECK.promise(3, "blanks where one likes", TellingEdgesTest::blanksBetween);
        CHECK.promise(3, "all else is none: each sign", TellingEdgesTest::noTokens);
    }

    // ---- promise 3: what may be told

    private static void emptyTexts() {
        fault(0, "");
        fault(0, " ");
        fault(0, "\n");
        fault(0, blanks(1000));
        fault(1, "^;");
    }

    private static void hillOdds() {
        for (int n = 0; n <= 12; n++) {
            fault(n <= 8 ? 0 : 4, "hill h dry " + (n <= 8 ? "" : "^") + n + " wet 4;");
            fault(n <= 8 ? 0 : 4, "hill h dry 4 wet " + (n <= 8 ? "" : "^") + n + ";");
        }
        fault(4, "hill h dry ^9999 wet 4;");
        fault(4, "hill h dry 0 wet ^0009;");
    }

    private static void fourHills() {
        String hill = "hill # dry 0 wet 8;";
        fault(0, Check.times(hill, 3));
        fault(0, Check.times(hill, 4));
        fault(5, Check.times(hill, 4) + "^hill e dry 0 wet 8;");
        fault(5, Check.times(hill, 4) + "^hill");
        fault(5, Check.times(hill, 4) + "^hill a dry 9");
        RainLoans x = Check.told(Check.times(hill, 4));
        CHECK.same("count(0)", x.count(0), 4);
    }

    private static void purseCoins() {
        CHECK.same("0 coins", Check.told("purse a 0;").purse(0), 0);
        CHECK.same("9999 coins", Check.told("purse a 9999;").purse(0), 9999);
        fault(1, "purse a ^10000;");
        fault(1, "purse a ^-1;");
    }

    private static void sixPersons() {
        fault(0, Check.times("purse # 0;", 5));
        fault(0, Check.times("purse # 0;", 6));
        fault(5, Check.times("purse # 0;", 6) + "^purse g 0;");
        fault(5, Check.times("purse # 0;", 6) + "^purse");
        fault(5, Check.times("purse # 0;", 6) + "^purse a 10000;");
        CHECK.same("count(1)", Check.told(Check.times("purse # 0;", 6)).count(1), 6);
    }

    private static void loanNumber(String before, int least, int most, String behind) {
        fault(0, WORLD + before + least + behind);
        fault(0, WORLD + before + most + behind);
        fault(4, WORLD + before + "^" + (most + 1) + behind);
        fault(4, WORLD + before + "^9999" + behind);
        fault(1, WORLD + before + "^10000" + behind);
        fault(1, WORLD + before + "^a" + behind);
        if (least > 0) {
            fault(4, WORLD + before + "^" + (least - 1) + behind);
            fault(4, WORLD + before + "^0000" + behind);
        }
    }

    private static void loanNumbers() {
        loanNumber("loan a to b coins ", 1, 999, " rate 0 due 1 on h plain;");
        loanNumber("loan a to b coins 1 rate ", 0, 99, " due 1 on h plain;");
        loanNumber("loan a to b coins 1 rate 0 due ", 1, 9, " on h plain;");
    }

    private static void tenLoans() {
        String loan = "loan a to b coins 1 rate 0 due 1 on h plain;";
        fault(0, WORLD + loan.repeat(9));
        fault(0, WORLD + loan.repeat(10));
        fault(5, WORLD + loan.repeat(10) + "^" + loan);
        fault(5, WORLD + loan.repeat(10) + "^loan");
        fault(5, WORLD + loan.repeat(10) + "^loan x to x");
        CHECK.same("count(2)", Check.told(WORLD + loan.repeat(10)).count(2), 10);
    }

    private static void betNumbers() {
        for (String[] parts : new String[][] {{"bet ", " pays 1 if 1;"}, {"bet 1 pays ", " if 1;"}}) {
            fault(0, parts[0] + "0" + parts[1]);
            fault(0, parts[0] + "999" + parts[1]);
            fault(4, parts[0] + "^1000" + parts[1]);
            fault(4, parts[0] + "^9999" + parts[1]);
            fault(1, parts[0] + "^10000" + parts[1]);
            fault(1, parts[0] + "^first" + parts[1]);
            fault(1, parts[0] + "^(1)" + parts[1]);
        }
        RainLoans x = Check.told("bet 999 pays 0 if 1;bet 0 pays 999 if 1;");
        CHECK.same("gain(1, 0)", x.gain(1, 0), -999);
        CHECK.same("gain(2, 0)", x.gain(2, 0), 999);
        // The numbers of an expression have no such bounds.
        fault(0, "bet 1 pays 1 if 9999;");
    }

    private static void eightBets() {
        fault(0, "bet 1 pays 1 if 1;".repeat(7));
        fault(0, "bet 1 pays 1 if 1;".repeat(8));
        fault(5, "bet 1 pays 1 if 1;".repeat(8) + "^bet 1 pays 1 if 1;");
        fault(5, "bet 1 pays 1 if 1;".repeat(8) + "^bet");
        fault(5, "bet 1 pays 1 if 1;".repeat(8) + "^bet 1000");
        CHECK.same("count(3)", Check.told("bet 1 pays 1 if 1;".repeat(8)).count(3), 8);
    }

    private static void fullOfAll() {
        String full = Check.times("hill h# dry0wet8;", 4) + Check.times("purse # 9999;", 6)
                + "loan a to b coins999rate99due9on hd both bail c;".repeat(10) + "bet999pays999if wet;".repeat(8);
        RainLoans x = Check.told(full);
        int[] most = {4, 6, 10, 8};
        for (int what = 0; what < 4; what++) {
            CHECK.same("count(" + what + ")", x.count(what), most[what]);
        }
        for (String word : new String[] {"hill", "purse", "loan", "bet"}) {
            fault(5, full + "^" + word);
        }
        fault(1, full + "^bail");
    }

    private static void numberedAsTold() {
        RainLoans x = Check.told("purse b 2;bet 0 pays 1 if 1;hill k dry 1 wet 2;purse a 1;"
                + "loan a to b coins 3 rate 0 due 1 on k plain;hill h dry 3 wet 4;bet 0 pays 2 if 1;purse c 3;"
                + "loan c to a coins 4 rate 0 due 1 on h dry bail b;");
        CHECK.same("purse(0)", x.purse(0), 2);
        CHECK.same("purse(1)", x.purse(1), 1);
        CHECK.same("purse(2)", x.purse(2), 3);
        CHECK.same("hill(0, 0)", x.hill(0, 0), 1);
        CHECK.same("hill(1, 0)", x.hill(1, 0), 3);
        CHECK.same("loan(0, 0)", x.loan(0, 0), 1);
        CHECK.same("loan(0, 1)", x.loan(0, 1), 0);
        CHECK.same("loan(1, 0)", x.loan(1, 0), 2);
        CHECK.same("loan(1, 6)", x.loan(1, 6), 0);
        CHECK.same("gain(1, 0)", x.gain(1, 0), 1);
        CHECK.same("gain(2, 0)", x.gain(2, 0), 2);
        x.day(1);
        CHECK.same("loan 0 is on the first hill", x.loan(0, 4), 1);
        CHECK.same("loan 1 is on the second hill", x.loan(1, 4), 1);
        x.day(2);
        CHECK.same("loan 0 is on the first hill", x.loan(0, 4), 1);
        CHECK.same("loan 1 is on the second hill", x.loan(1, 4), 1);
    }

    private static void limits() {
        CHECK.promise(3, "any number of sentences: none", TellingEdgesTest::emptyTexts);
        CHECK.promise(3, "odds 0 to 8", TellingEdgesTest::hillOdds);
        CHECK.promise(3, "HILLS: 4 at most", TellingEdgesTest::fourHills);
        CHECK.promise(3, "a purse of 0 to 9999", TellingEdgesTest::purseCoins);
        CHECK.promise(3, "PERSONS: 6 at most", TellingEdgesTest::sixPersons);
        CHECK.promise(3, "coins 1 to 999, rate 0 to 99, due 1 to 9", TellingEdgesTest::loanNumbers);
        CHECK.promise(3, "loans: 10 at most", TellingEdgesTest::tenLoans);
        CHECK.promise(3, "a price of 0 to 999, what it pays 0 to 999", TellingEdgesTest::betNumbers);
        CHECK.promise(3, "bets: 8 at most", TellingEdgesTest::eightBets);
        CHECK.promise(3, "all at their most in one text", TellingEdgesTest::fullOfAll);
        CHECK.promise(3, "numbered as told", TellingEdgesTest::numberedAsTold);
    }

    // ---- promise 3: names

    private static void reservedWords() {
        for (String word : RESERVED.split(" ")) {
            fault(1, "hill ^" + word + " dry 4 wet 4;");
            fault(1, "purse ^" + word + " 1;");
            fault(1, WORLD + "loan ^" + word + " to b coins 1 rate 1 due 1 on h plain;");
            fault(1, WORLD + "loan a to ^" + word + " coins 1 rate 1 due 1 on h plain;");
            fault(1, WORLD + "loan a to b coins 1 rate 1 due 1 on ^" + word + " plain;");
            fault(1, WORLD + "loan a to b coins 1 rate 1 due 1 on h plain bail ^" + word + ";");
        }
    }

    private static void nearlyReserved() {
        for (String word : RESERVED.split(" ")) {
            fault(0, "purse " + word + "x 1;");
            fault(0, "purse x" + word + " 1;");
            String shorter = word.substring(0, word.length() - 1);
            fault(0, "hill " + shorter + " dry 1 wet 1;");
        }
        fault(0, "purse custom 1;purse person 1;purse flood 1;purse day 1;purse e 1;purse then 1;");
    }

    private static void noTwoAlike() {
        fault(3, "hill h dry 1 wet 1;hill ^h dry 1 wet 1;");
        fault(3, "hill h dry 1 wet 1;purse ^h 1;");
        fault(3, "purse h 1;hill ^h dry 1 wet 1;");
        fault(3, "purse h 1;purse ^h 1;");
        fault(3, Check.times("purse # 1;", 5) + "purse ^e 1;");
        fault(3, Check.times("hill # dry 1 wet 1;", 3) + "hill ^c dry 1 wet 1;");
        fault(3, Check.times("hill # dry 1 wet 1;", 4) + "purse ^d 1;");
        fault(0, Check.times("hill # dry 1 wet 1;", 4) + Check.times("purse x# 1;", 6));
    }

    private static void toldAhead() {
        String loan = "loan a to b coins 1 rate 0 due 1 on h plain";
        fault(0, WORLD + loan + ";");
        fault(2, "loan ^a to b coins 1 rate 0 due 1 on h plain;" + WORLD);
        fault(2, "purse a 1;loan a to ^b coins 1 rate 0 due 1 on h plain;purse b 1;");
        fault(2, "purse a 1;purse b 1;loan a to b coins 1 rate 0 due 1 on ^h plain;hill h dry 1 wet 1;");
        fault(2, "hill h dry 1 wet 1;purse a 1;purse b 1;" + loan + " bail ^c;purse c 1;");
        // Names of a custom that stood before are told no more.
        RainLoans x = Check.told(WORLD);
        CHECK.same("custom()", Check.tell(x, loan + ";"), 2 + 16 * 5);
    }

    private static void unknownNames() {
        fault(2, WORLD + "loan ^d to b coins 1 rate 0 due 1 on h plain;");
        fault(2, WORLD + "loan ^h to b coins 1 rate 0 due 1 on h plain;");
        fault(2, WORLD + "loan a to ^d coins 1 rate 0 due 1 on h plain;");
        fault(2, WORLD + "loan a to ^h coins 1 rate 0 due 1 on h plain;");
        fault(2, WORLD + "loan a to b coins 1 rate 0 due 1 on ^d plain;");
        fault(2, WORLD + "loan a to b coins 1 rate 0 due 1 on ^a plain;");
        fault(2, WORLD + "loan a to b coins 1 rate 0 due 1 on h plain bail ^d;");
        fault(2, WORLD + "loan a to b coins 1 rate 0 due 1 on h plain bail ^h;");
    }

    private static void anotherOne() {
        fault(3, WORLD + "loan a to ^a coins 1 rate 0 due 1 on h plain;");
        fault(3, WORLD + "loan c to ^c coins 1 rate 0 due 1 on h plain;");
        fault(3, WORLD + "loan a to b coins 1 rate 0 due 1 on h plain bail ^a;");
        fault(3, WORLD + "loan a to b coins 1 rate 0 due 1 on h plain bail ^b;");
        fault(0, WORLD + "loan a to b coins 1 rate 0 due 1 on h plain bail c;");
        fault(0, WORLD + "loan c to b coins 1 rate 0 due 1 on h plain bail a;");
    }

    private static void kindsAndBail() {
        String[] kinds = {"plain", "dry", "both", "either", "hidden", "joined"};
        for (int kind = 0; kind < 6; kind++) {
            RainLoans x = Check.told(WORLD + "loan a to b coins 1 rate 0 due 1 on h " + kinds[kind] + ";");
            CHECK.same("loan(0, 5) of " + kinds[kind], x.loan(0, 5), kind);
            CHECK.same("loan(0, 6) without a bail", x.loan(0, 6), -1);
            RainLoans y = Check.told(WORLD + "loan a to b coins 1 rate 0 due 1 on h " + kinds[kind] + " bail c;");
            CHECK.same("loan(0, 6) with a bail", y.loan(0, 6), 2);
        }
        for (String word : RESERVED.split(" ")) {
            if (!"plain dry both either hidden joined".contains(word)) {
                fault(1, WORLD + "loan a to b coins 1 rate 0 due 1 on h ^" + word + ";");
            }
        }
        fault(1, WORLD + "loan a to b coins 1 rate 0 due 1 on h ^a;");
        fault(1, WORLD + "loan a to b coins 1 rate 0 due 1 on h plain ^plain;");
        fault(1, WORLD + "loan a to b coins 1 rate 0 due 1 on h plain bail^;");
        fault(1, WORLD + "loan a to b coins 1 rate 0 due 1 on h plain ^c;");
        fault(1, WORLD + "loan a to b coins 1 rate 0 due 1 on h plain bail c ^bail c;");
    }

    private static void names() {
        CHECK.promise(3, "a NAME is another WORD than these", TellingEdgesTest::reservedWords);
        CHECK.promise(3, "a NAME may be nearly one of these", TellingEdgesTest::nearlyReserved);
        CHECK.promise(3, "no two (HILLS, PERSONS) are alike", TellingEdgesTest::noTwoAlike);
        CHECK.promise(3, "a PERSON told, a HILL told", TellingEdgesTest::toldAhead);
        CHECK.promise(3, "2: a NAME of no PERSON, no HILL", TellingEdgesTest::unknownNames);
        CHECK.promise(3, "3: the debtor that is the lender, the bail that is one of these", TellingEdgesTest::anotherOne);
        CHECK.promise(3, "KIND: six; BAIL is nothing, or bail NAME", TellingEdgesTest::kindsAndBail);
    }

    // ---- promise 3: expressions

    private static void expressionFaults() {
        String bet = "bet 1 pays 1 if ";
        for (String good : new String[] {"1", "first", "second", "third", "fourth", "wet", "not 1", "(1)", "1+1", "1-1",
            "1*1", "1<1", "1=1", "1 and 1", "1 or 1", "1<1 and 1=1 or 1", "1+1*1-1<1*1", "(1<1)<(1=1)", "not not 1"}) {
            fault(0, bet + good + ";");
        }
        for (String bad : new String[] {"^;", "^)", "(^);", "1^);", "(1^;", "1 ^1;", "1 ^first;", "1 ^not 1;", "1 ^(1);",
            "first ^1;", "^+1;", "^-1;", "^*1;", "^<1;", "^=1;", "1+^;", "1-^;", "1*^;", "1<^;", "1=^;", "1 and ^;", "1 or ^;",
            "not^;", "1+^+1;", "1*^-1;", "1<1^<1;", "1<1^=1;", "1=1^=1;", "1=1^<1;", "1 and 1<1^=1;", "^and 1;", "^or 1;",
            "1 and ^and 1;", "1 or ^and 1;", "not ^and 1;", "^h;", "^dry;", "^plain;", "^if 1;", "1 ^if 1;", "1 ^pays 1;",
            "1;^1;", "^fifth;", "(1 and ^);", "((1)^;", "1^", "1 + ^", "(^", "not ^", "^~;", "1^~;", "1+^~;", "(1^~;"}) {
            fault(1, bet + bad);
        }
    }

    private static void fourDeep() {
        String bet = "bet 1 pays 1 if ";
        for (String part : new String[] {"1", "first", "wet"}) {
            fault(0, bet + "((((" + part + "))));");
            fault(5, bet + "(((((^" + part + ")))));");
            fault(0, bet + "not not not not " + part + ";");
            fault(5, bet + "not not not not not ^" + part + ";");
            fault(0, bet + "not(not(" + part + "));");
            fault(5, bet + "not(not(not ^" + part + "));");
            fault(5, bet + "(not(not(^" + part + "))));");
            fault(5, bet + "((((not ^" + part + "))));");
        }
    }

    private static void tooDeepBegins() {
        String bet = "bet 1 pays 1 if ";
        fault(5, bet + "not not not not not ^not 1;");
        fault(5, bet + "not not not not not ^(1);");
        fault(5, bet + "(((((^(1))))));");
        fault(5, bet + "(((((^not 1)))));");
        fault(5, bet + "(((((^((((((");
        // The first PART of a sum or of a product that lies too deep, not a later one.
        fault(5, bet + "(((((^1+2*3)))));");
    }

    private static void besideIsNotWithin() {
        String bet = "bet 1 pays 1 if ";
        fault(0, bet + "((((1))))+((((2))))*((((3))));");
        fault(0, bet + "((((1)+(2))*(3)<(4)))and((((5))));");
        fault(0, bet + "not not not not 1+not not not not 1;");
        fault(0, bet + "(not not not 1)*(not not not 1);");
        fault(0, bet + "((((1+1-1*1<1 and 1 or 1))));");
        fault(5, bet + "((((1))))+((((not ^2))));");
        fault(0, (bet + "((((1))));").repeat(8));
    }

    private static void expressions() {
        CHECK.promise(3, "E, TEST, SUM, PRODUCT, PART: what can't stand there", TellingEdgesTest::expressionFaults);
        CHECK.promise(3, "no PART lies within 5 of not and ( )", TellingEdgesTest::fourDeep);
        CHECK.promise(3, "5: not, or a PART, within 5 others", TellingEdgesTest::tooDeepBegins);
        CHECK.promise(3, "what lies beside is not within", TellingEdgesTest::besideIsNotWithin);
    }

    // ---- promise 3: faults

    private static void atTheEnd() {
        String[] sentences = {"hill k dry 4 wet 4 ;", "purse d 9 ;", "loan a to b coins 1 rate 0 due 1 on h plain bail c ;",
            "bet 1 pays 1 if not ( first + 1 ) * 2 < 3 and 1 ;"};
        for (String sentence : sentences) {
            String[] tokens = sentence.split(" ");
            StringBuilder cut = new StringBuilder(WORLD);
            for (int i = 0; i + 1 < tokens.length; i++) {
                cut.append(tokens[i]);
                fault(1, cut + "^");
                fault(1, cut + " \n ^");
                cut.append(' ');
            }
            fault(0, WORLD + sentence);
            fault(0, WORLD + sentence + " \n ");
        }
    }

    private static void everyTokenMissing() {
        String[] sentences = {"hill k dry 4 wet 4 ;", "purse d 9 ;", "loan a to b coins 1 rate 0 due 1 on h plain ;",
            "bet 1 pays 1 if 1 ;"};
        for (String sentence : sentences) {
            String[] tokens = sentence.split(" ");
            for (int i = 0; i < tokens.length; i++) {
                StringBuilder text = new StringBuilder(WORLD);
                for (int k = 0; k < tokens.length; k++) {
                    // Nowhere in these a bracket could be closed.
                    text.append(k == i ? "^) " : tokens[k] + " ");
                }
                fault(1, text.toString());
            }
        }
    }

    private static void furthestPlaces() {
        String last = "purse a 1" + blanks(990);
        fault(1, last + "^=");
        fault(1, last + " ^");
        fault(4, "bet " + blanks(992) + "^1000");
        fault(1, "bet 1" + blanks(995) + "^");
        fault(1, "purse " + blanks(993) + "^1");
        fault(5, Check.times("purse # 0;", 6) + blanks(935) + "^purse");
    }

    private static void theFirstCounts() {
        fault(5, Check.times("hill # dry 0 wet 0;", 4) + "^hill ~ dry 9;");
        fault(4, "hill h dry ^9 wet 9;purse h ~");
        fault(3, "purse a 1;purse ^a ~;");
        fault(2, "purse a 1;loan a to ^b coins 0 rate ~");
        fault(1, "purse ^~ 1;hill a dry 9 wet 9;");
        fault(4, "bet ^1000 pays 1000 if (((((1)))));");
    }

    private static void theLeastKind() {
        // None, or one that can't stand there, is 1 even where a number, a name or a part would be wrong, too.
        fault(1, "bet ^99999 pays 1 if 1;");
        fault(1, "bet 1 pays 1 if (((((^);");
        fault(1, "bet 1 pays 1 if (((((^;");
        fault(1, "bet 1 pays 1 if (((((^~;");
        fault(1, "bet 1 pays 1 if (((((^12345;");
        fault(1, "bet 1 pays 1 if (((((^h;");
        fault(1, "bet 1 pays 1 if (((((^+1;");
        fault(1, "bet 1 pays 1 if (((((^and 1;");
        fault(1, "bet 1 pays 1 if (((((^");
        fault(1, "bet 1 pays 1 if not not not not not^");
        fault(1, "purse a 1;loan a to ^to coins 1 rate 1 due 1 on h plain;");
    }

    private static void faultsLeaveAll() {
        String[] texts = {"purse z ~", "loan z", "purse z 1;purse z 2;", "hill z dry 9 wet 1;", "purse # 1;", "purse z 1;",
            "hill z dry 1 wet 1;purse y 2;purse x 2;loan x to y coins 1 rate 1 due 1 on z dry;bet 1 pays 1 if wet"};
        int[] faults = {1 + 16 * 8, 2 + 16 * 5, 3 + 16 * 16, 4 + 16 * 11, 5 + 16 * 60, 5 + 16 * 90, 1};
        texts[4] = Check.times(texts[4], 6) + "purse q 1;";
        texts[5] = Check.times(texts[5].replace('z', '#'), 3) + "bet 1 pays 1 if not not not not not not 1;";
        faults[5] = 5 + 16 * (30 + 36);
        faults[6] = 1 + 16 * texts[6].length();
        for (int i = 0; i < texts.length; i++) {
            RainLoans x = Sample.amid();
            x.custom();
            x.mark(1, true);
            x.day(1);
            x.day(3);
            RainLoans twin = Sample.amid();
            twin.custom();
            twin.mark(1, true);
            twin.day(1);
            twin.day(3);
            CHECK.same("custom() of " + texts[i], Check.tell(x, texts[i]), faults[i]);
            CHECK.same("all stays", Look.whole(x), Look.whole(twin));
        }
    }

    private static void allAnew() {
        RainLoans x = Sample.amid();
        x.day(3);
        x.custom();
        CHECK.same("of Sample.TEXT", Check.tell(x, Sample.TEXT), 0);
        x.day(3);
        CHECK.same("a FLOOD", x.count(5), 1);
        CHECK.same("of Sample.TEXT once more", Check.tell(x, Sample.TEXT), 0);
        CHECK.same("as in a new object", Look.state(x) + Look.custom(x), Look.state(Sample.fresh())
                + Look.custom(Sample.fresh()));
        CHECK.same("nothing can be undone", x.undo(), false);
    }

    private static void lentAndDry() {
        RainLoans x = Check.told("hill h dry 1 wet 8;purse a 7;purse b 5;loan a to b coins 999 rate 9 due 1 on h plain;");
        CHECK.same("the coins are with the debtor already", x.purse(1), 5);
        CHECK.same("purse(0)", x.purse(0), 7);
        CHECK.same("LENT", x.loan(0, 3), 0);
        CHECK.same("OWES", x.loan(0, 2), 999);
        CHECK.same("RIPE days", x.loan(0, 4), 0);
        CHECK.same("has paid", x.loan(0, 7), 0);
        CHECK.same("DAY", x.count(4), 0);
        CHECK.same("dry", x.hill(0, 2), 0);
        CHECK.same("by the odds behind a dry day", x.chance(0, 1, 1), 8);
    }

    private static void lessThanBefore() {
        RainLoans x = Sample.amid();
        CHECK.same("the tape tells a purse alone", x.custom(), 0);
        CHECK.same("count(0)", x.count(0), 0);
        CHECK.same("count(1)", x.count(1), 1);
        CHECK.same("count(2)", x.count(2), 0);
        CHECK.same("count(3)", x.count(3), 0);
        CHECK.none("purse(1)", () -> x.purse(1));
        CHECK.same("loan(0, 0)", x.loan(0, 0), -1);
        CHECK.same("hill(0, 0)", x.hill(0, 0), -1);
        CHECK.none("gain(1, 0)", () -> x.gain(1, 0));
        CHECK.same("day(1)", x.day(1), -1);
        CHECK.same("early(0)", x.early(0), false);
        CHECK.same("ruined()", x.ruined(), 0);
        CHECK.same("has(0)", x.has(0), 3);
        CHECK.same("custom() of the empty tape", x.custom(), 0);
        CHECK.same("nobody", Look.state(x), Look.state(new RainLoans()));
    }

    /** What a longer custom left behind where the shorter one has nothing. */
    private static void nothingShinesThrough() {
        String two = "hill h dry 8 wet 8;purse a 0;purse b 0;";
        String due = "loan a to b coins 9 rate 0 due 1 on h plain;";
        String joined = "loan a to b coins 5 rate 0 due 9 on h joined;";
        RainLoans x = Check.told(two + due.repeat(10));
        CHECK.same("day(1)", x.day(1), 10);
        CHECK.same("custom()", Check.tell(x, two.replace("dry 8 wet 8", "dry 0 wet 0") + joined), 0);
        CHECK.same("lots(1, 1, 1)", x.lots(1, 1, 1), 0);
        CHECK.same("day(1): not joined to a loan that is no more", x.day(1), 0);
        CHECK.same("ruined()", x.ruined(), 0);
        RainLoans bets = Check.told("bet 1 pays 5 if 1;bet 1 pays 5 if 1;");
        CHECK.same("custom()", Check.tell(bets, "bet 1 pays 5 if 0;"), 0);
        CHECK.same("gain(1, 0)", bets.gain(1, 0), -1);
        CHECK.same("sure(0)", bets.sure(0), 0);
        RainLoans fault = Check.told("bet 1 pays 5 if 0;");
        CHECK.same("a fault behind a bet", Check.tell(fault, "bet 1 pays 5 if 1;~"), 1 + 16 * 18);
        CHECK.same("gain(1, 0)", fault.gain(1, 0), -1);
    }

    private static void marksStay() {
        RainLoans x = Sample.amid();
        CHECK.same("custom()", x.custom(), 0);
        CHECK.same("behind a custom", x.mark(1, true), true);
        CHECK.same("count(4)", x.count(4), 1);
        CHECK.same("a fault", Check.tell(x, "~"), 1);
        CHECK.same("behind a fault", x.mark(1, true), true);
        CHECK.same("count(2)", x.count(2), 3);
        CHECK.same("none of the others", x.mark(0, true) || x.mark(2, true) || x.mark(3, true), false);
    }

    private static void faults() {
        CHECK.promise(3, "the end is a token at the text's length", TellingEdgesTest::atTheEnd);
        CHECK.promise(3, "1: a token that can't stand there, each of a sentence", TellingEdgesTest::everyTokenMissing);
        CHECK.promise(3, "places up to 1,000", TellingEdgesTest::furthestPlaces);
        CHECK.promise(3, "of the first token from the left that is wrong", TellingEdgesTest::theFirstCounts);
        CHECK.promise(3, "the least kind of that token", TellingEdgesTest::theLeastKind);
        CHECK.promise(3, "a FAULT: all stays", TellingEdgesTest::faultsLeaveAll);
        CHECK.promise(3, "without a FAULT it is the CUSTOM from then on", TellingEdgesTest::allAnew);
        CHECK.promise(3, "all loans are LENT, DAY 0, the last day was dry", TellingEdgesTest::lentAndDry);
        CHECK.promise(3, "nothing of the last CUSTOM is left", TellingEdgesTest::lessThanBefore);
        CHECK.promise(3, "nothing of it shines through", TellingEdgesTest::nothingShinesThrough);
        CHECK.promise(3, "MARKS stay", TellingEdgesTest::marksStay);
    }

    public static void main(String[] args) {
        promise1();
        promise2();
        tokens();
        limits();
        names();
        expressions();
        faults();
        CHECK.end();
    }
}
