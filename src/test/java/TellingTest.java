/** Promises 1 to 3: a new object, the tape, customs and their faults. */
public final class TellingTest {
    private static final Check CHECK = new Check();
    private static final String WORLD = "hill h dry 4 wet 4;purse a 1;purse b 2;purse c 3;";

    private static void fault(int kind, String marked) {
        CHECK.fault(kind, marked);
    }

    private static String times(String part, int n) {
        return Check.times(part, n);
    }

    private static void newObject() {
        RainLoans x = new RainLoans();
        CHECK.same("NONE", RainLoans.NONE, -1);
        for (int what = 0; what <= 7; what++) {
            CHECK.same("count(" + what + ")", x.count(what), 0);
        }
        CHECK.same("count(8)", x.count(8), -1);
        CHECK.same("count(-1)", x.count(-1), -1);
        CHECK.same("hill(0, 0)", x.hill(0, 0), -1);
        CHECK.same("loan(0, 0)", x.loan(0, 0), -1);
        CHECK.none("purse(0)", () -> x.purse(0));
        CHECK.none("has(0)", () -> x.has(0));
        CHECK.same("ruined()", x.ruined(), 0);
        CHECK.same("undo()", x.undo(), false);
        CHECK.same("early(0)", x.early(0), false);
        CHECK.same("gain(0, 0)", x.gain(0, 0), 0);
        CHECK.same("sure(0)", x.sure(0), 0);
        CHECK.same("custom() of nothing", x.custom(), 0);
    }

    private static void tape() {
        RainLoans x = new RainLoans();
        CHECK.same("feed(0, 0, 0)", x.feed(0, 0, 0), 0);
        CHECK.same("feed of 9 10 11 31 32 126 127 128", x.feed(0x090A0B1F207E7F80L, 0, 0), 3);
        CHECK.same("feed of -1", x.feed(-1, -1, 0x41), 4);
        CHECK.same("count(7)", x.count(7), 4);
        // ~ is no token: it stands behind 10 and 32.
        CHECK.same("custom()", x.custom(), 1 + 16 * 2);
        CHECK.same("count(7)", x.count(7), 0);
        long blanks = 0x2020202020202020L;
        for (int i = 1; i <= 41; i++) {
            CHECK.same("feed " + i, x.feed(blanks, blanks, blanks), 24 * i);
        }
        CHECK.same("feed 42", x.feed(blanks, 0x2020202020202020L, 0x4141414141414141L), 1000);
        CHECK.same("feed 43", x.feed(blanks, blanks, blanks), 1000);
        CHECK.same("custom() of 1,000 blanks", x.custom(), 0);
        CHECK.same("the highest byte first", x.feed(0x70757273652061L, 0x2031323B20202020L, 0), 15);
        CHECK.same("custom()", x.custom(), 0);
        CHECK.same("purse(0)", x.purse(0), 12);
    }

    private static void full() {
        RainLoans x = new RainLoans();
        StringBuilder text = new StringBuilder("purse a 7;");
        while (text.length() < 999) {
            text.append(' ');
        }
        text.append(";purse b 1;");
        CHECK.same("1,000 at most", Check.feed(x, text.toString()), 1000);
        CHECK.same("the sign 999 is read", x.custom(), 1 + 16 * 999);
        text.setLength(1000);
        text.setCharAt(999, ' ');
        CHECK.same("custom()", Check.tell(x, text + ";"), 0);
        CHECK.same("purse(0)", x.purse(0), 7);
    }

    private static void tokens() {
        fault(0, "hill h dry4wet4;purse a1;");
        fault(0, "\n hill\nabcdefgh dry 0008 wet 0 ;\n");
        fault(1, "hill ^abcdefghi dry 4 wet 4;");
        fault(1, "purse a ^10000;");
        fault(1, "purse a ^00001;");
        fault(0, "purse a 9999;");
        fault(1, "purse ^A 1;");
        fault(1, "purse a 1^:");
        fault(1, "^,");
        fault(1, "purse a 1^");
        fault(1, "purse a 1  ^");
        fault(1, "purse a 1;^;");
        fault(1, "purse a^;");
        fault(1, "purse a ^b1;");
        fault(1, "^not");
        fault(1, "^1");
    }

    private static void names() {
        for (String word : ("hill dry wet purse loan to coins rate due on bail bet pays if plain both"
                + " either hidden joined first second third fourth not and or").split(" ")) {
            fault(1, "hill ^" + word + " dry 4 wet 4;");
            fault(1, "purse ^" + word + " 1;");
            fault(1, WORLD + "loan ^" + word + " to b coins 1 rate 1 due 1 on h plain;");
            fault(1, WORLD + "loan a to ^" + word + " coins 1 rate 1 due 1 on h plain;");
            fault(1, WORLD + "loan a to b coins 1 rate 1 due 1 on ^" + word + " plain;");
            fault(1, WORLD + "loan a to b coins 1 rate 1 due 1 on h plain bail ^" + word + ";");
        }
        fault(0, "purse persons 1;purse firsts 2;purse no 3;");
        fault(3, "hill h dry 1 wet 1;hill ^h dry 1 wet 1;");
        fault(3, "hill h dry 1 wet 1;purse ^h 1;");
        fault(3, "purse h 1;hill ^h dry 1 wet 1;");
        fault(3, "purse ab 1;purse a 1;purse ^ab 1;");
    }

    private static void hillsAndPurses() {
        fault(4, "hill h dry ^9 wet 4;");
        fault(4, "hill h dry 4 wet ^9;");
        fault(1, "hill h ^wet 4 dry 4;");
        fault(1, "hill h dry ^h wet 4;");
        fault(1, "hill h dry 4 wet 4 ^purse");
        fault(0, times("hill # dry 0 wet 8;", 4));
        fault(5, times("hill # dry 0 wet 8;", 4) + "^hill a");
        fault(0, times("purse # 0;", 6));
        fault(5, times("purse # 0;", 6) + "^purse a");
    }

    private static void loans() {
        String loan = "loan a to b coins 1 rate 0 due 1 on h plain;";
        fault(0, WORLD + times(loan, 10));
        fault(5, WORLD + times(loan, 10) + "^loan loan");
        for (String kind : "plain dry both either hidden joined".split(" ")) {
            fault(0, WORLD + "loan a to b coins 999 rate 99 due 9 on h " + kind + ";");
            fault(0, WORLD + "loan a to b coins 999 rate 99 due 9 on h " + kind + " bail c;");
        }
        fault(2, WORLD + "loan ^d to b coins 1 rate 0 due 1 on h plain;");
        fault(2, WORLD + "loan ^h to b coins 1 rate 0 due 1 on h plain;");
        fault(2, WORLD + "loan a to ^d coins 1 rate 0 due 1 on h plain;");
        fault(3, WORLD + "loan a to ^a coins 1 rate 0 due 1 on h plain;");
        fault(2, WORLD + "loan a to b coins 1 rate 0 due 1 on ^a plain;");
        fault(2, WORLD + "loan a to b coins 1 rate 0 due 1 on ^k plain;");
        fault(2, WORLD + "loan a to b coins 1 rate 0 due 1 on h plain bail ^d;");
        fault(3, WORLD + "loan a to b coins 1 rate 0 due 1 on h plain bail ^a;");
        fault(3, WORLD + "loan a to b coins 1 rate 0 due 1 on h plain bail ^b;");
        fault(2, "purse a 1;loan a to ^b coins 1 rate 0 due 1 on h plain;purse b 1;");
        fault(4, WORLD + "loan a to b coins ^0 rate 0 due 1 on h plain;");
        fault(4, WORLD + "loan a to b coins ^1000 rate 0 due 1 on h plain;");
        fault(4, WORLD + "loan a to b coins 1 rate ^100 due 1 on h plain;");
        fault(4, WORLD + "loan a to b coins 1 rate 0 due ^0 on h plain;");
        fault(4, WORLD + "loan a to b coins 1 rate 0 due ^10 on h plain;");
        fault(1, WORLD + "loan a ^b coins 1 rate 0 due 1 on h plain;");
        fault(1, WORLD + "loan a to b ^1 rate 0 due 1 on h plain;");
        fault(1, WORLD + "loan a to b coins 1 ^due 0 due 1 on h plain;");
        fault(1, WORLD + "loan a to b coins 1 rate 0 ^on h plain;");
        fault(1, WORLD + "loan a to b coins 1 rate 0 due 1 ^h plain;");
        fault(1, WORLD + "loan a to b coins 1 rate 0 due 1 on h ^wet;");
        fault(1, WORLD + "loan a to b coins 1 rate 0 due 1 on h ^;");
        fault(1, WORLD + "loan a to b coins 1 rate 0 due 1 on h plain ^c;");
        fault(1, WORLD + "loan a to b coins 1 rate 0 due 1 on h plain bail ^;");
        fault(1, WORLD + "loan a to b coins 1 rate 0 due 1 on h plain bail c ^bail c;");
    }

    private static void bets() {
        fault(0, times("bet 0 pays 999 if 1;", 8));
        fault(5, times("bet 0 pays 999 if 1;", 8) + "^bet bet");
        fault(4, "bet ^1000 pays 1 if 1;");
        fault(4, "bet 1 pays ^1000 if 1;");
        fault(1, "bet 1 ^if 1;");
        fault(1, "bet 1 pays 1 ^1;");
        fault(1, "bet 1 pays 1 if ^;");
        fault(1, "bet 1 pays 1 if 1 ^2;");
        fault(1, "bet 1 pays 1 if 1<2^=3;");
        fault(1, "bet 1 pays 1 if 1 and ^or 1;");
        fault(1, "bet 1 pays 1 if ^-1;");
        fault(1, "bet 1 pays 1 if (1^;");
        fault(1, "bet 1 pays 1 if 1^);");
        fault(1, "bet 1 pays 1 if (^);");
        fault(1, "bet 1 pays 1 if ^dry;");
        fault(1, "bet 1 pays 1 if ^h;");
        fault(1, "bet 1 pays 1 if 1 + ^12345;");
        fault(1, "bet 1 pays 1 if 1 * ^");
        fault(0, "bet 1 pays 1 if ((((9999))));");
        fault(5, "bet 1 pays 1 if (((((^1)))));");
        fault(5, "bet 1 pays 1 if (((((^not 1)))));");
        fault(5, "bet 1 pays 1 if (((((^((");
        fault(1, "bet 1 pays 1 if (((((^)))));");
        fault(0, "bet 1 pays 1 if not not not not 1;");
        fault(5, "bet 1 pays 1 if not not not not not ^wet;");
        fault(5, "bet 1 pays 1 if not(not(not ^1));");
        fault(0, "bet 1 pays 1 if not(not 1+1)*(1)-not((1<2)=1)and(1)or((((0))));");
    }

    private static void faultsLeaveAll() {
        RainLoans x = Check.told(WORLD + "loan a to b coins 9 rate 1 due 3 on h plain;bet 1 pays 2 if 1;");
        x.day(1);
        CHECK.same("a fault", Check.tell(x, "purse z 5;purse y 4;hill k dry 1 wet 9;"), 4 + 16 * 37);
        CHECK.same("count(1)", x.count(1), 3);
        CHECK.same("count(4)", x.count(4), 1);
        CHECK.same("count(6)", x.count(6), 1);
        CHECK.same("purse(0)", x.purse(0), 1);
        CHECK.same("loan(0, 2)", x.loan(0, 2), 10);
        CHECK.same("gain(1, 0)", x.gain(1, 0), 1);
        CHECK.same("custom() of nothing", x.custom(), 0);
        for (int what = 0; what <= 7; what++) {
            CHECK.same("count(" + what + ") behind a custom of nothing", x.count(what), 0);
        }
    }

    /** What an earlier text told is not read again behind the end of a shorter one. */
    private static void shorterTexts() {
        String text = WORLD + "loan a to b coins 9 rate 1 due 3 on h plain bail c;bet 1 pays 2 if not(first<1);";
        for (int length = text.length(); length >= 0; length--) {
            RainLoans x = Check.told(text);
            boolean whole = length == 0 || text.charAt(length - 1) == ';';
            String cut = text.substring(0, length);
            boolean inWord = length > 0 && Character.isLetter(text.charAt(length - 1));
            int got = Check.tell(x, cut);
            CHECK.same("custom() of " + cut, whole ? got == 0 : got % 16 == 1 && got / 16 == length || inWord, true);
        }
    }

    private static void newCustomBeginsAnew() {
        String flood = "hill h dry 1 wet 2;hill k dry 3 wet 4;purse a 10;purse b 20;"
                + "loan a to b coins 30 rate 5 due 2 on h plain;";
        RainLoans x = Check.told(flood);
        x.day(3);
        CHECK.same("ruined()", x.ruined(), 2);
        CHECK.same("count(5)", x.count(5), 1);
        CHECK.same("custom()", Check.tell(x, flood), 0);
        CHECK.same("count(4)", x.count(4), 0);
        CHECK.same("count(5)", x.count(5), 0);
        CHECK.same("count(6)", x.count(6), 0);
        CHECK.same("undo()", x.undo(), false);
        CHECK.same("ruined()", x.ruined(), 0);
        CHECK.same("hill(0, 2)", x.hill(0, 2), 0);
        CHECK.same("purse(1)", x.purse(1), 20);
        CHECK.same("loan(0, 2)", x.loan(0, 2), 30);
        CHECK.same("loan(0, 3)", x.loan(0, 3), 0);
        CHECK.same("loan(0, 4)", x.loan(0, 4), 0);
        CHECK.same("loan(0, 7)", x.loan(0, 7), 0);
    }

    public static void main(String[] args) {
        newObject();
        tape();
        full();
        tokens();
        names();
        hillsAndPurses();
        loans();
        bets();
        faultsLeaveAll();
        shorterTexts();
        newCustomBeginsAnew();
        CHECK.end();
    }
}
