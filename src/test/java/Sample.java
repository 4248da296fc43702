/** A custom with something of all, and an object in the midst of it. */
final class Sample {
    static final String TEXT = "hill h dry 1 wet 7;hill k dry 2 wet 6;purse a 10;purse b 50;purse c 4;"
            + "loan a to b coins 20 rate 2 due 3 on h plain bail c;loan b to c coins 9 rate 1 due 1 on k dry;"
            + "loan c to a coins 5 rate 0 due 9 on k joined;bet 3 pays 7 if first;bet 2 pays 5 if wet=1;";

    private Sample() {
    }

    /** Loan 0 is LENT, loan 1 DUE with 2 coins left and its debtor ruined, loan 2 PAID; mark 1 is laid. */
    static RainLoans amid() {
        RainLoans x = Check.told(TEXT);
        x.day(1);
        x.mark(1, false);
        x.day(2);
        x.early(2);
        x.day(0);
        Check.feed(x, "purse z 3;");
        return x;
    }

    static RainLoans fresh() {
        return Check.told(TEXT);
    }
}
