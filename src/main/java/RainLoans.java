import java.util.NoSuchElementException;

/** Loans that rest in dry weather, as the document tells them. */
public final class RainLoans {
    public static final int NONE = -1;

    private static final int MOST_HILLS = 4;
    private static final int MOST_PERSONS = 6;
    private static final int MOST_LOANS = 10;
    private static final int MOST_BETS = 8;
    private static final int MOST_SIGNS = 1000;
    private static final int MOST_UNDONE = 30;
    private static final int MOST_MARKS = 4;
    private static final int MOST_AHEAD = 12;
    private static final int MOST_COINS = 99999;
    private static final int CANNOT = -2;
    /** The fact that is no single hill's rain. */
    private static final int HOW_MANY_WET = 4;

    private final Teller teller;
    private final Custom custom;
    private final Book book;
    private final Past past;
    private final Mark[] marks;
    private final Ahead ahead;
    private final Years drawn;

    public RainLoans() {
        teller = new Teller();
        custom = new Custom();
        book = new Book();
        past = new Past();
        marks = new Mark[MOST_MARKS];
        for (int i = 0; i < MOST_MARKS; i++) {
            marks[i] = new Mark();
        }
        ahead = new Ahead();
        drawn = new Years();
    }

    public int feed(long a, long b, long c) {
        teller.tape.addBytes(a);
        teller.tape.addBytes(b);
        teller.tape.addBytes(c);
        return teller.tape.length;
    }

    public int custom() {
        int fault = teller.readTape();
        teller.tape.empty();
        if (fault == 0) {
            custom.copyFrom(teller.told);
            book.open(custom);
            past.forget();
        }
        return fault;
    }

    public int hill(int hill, int what) {
        if (!custom.isHill(hill)) {
            return NONE;
        }
        switch (what) {
            case 0:
                return custom.dryOdds[hill];
            case 1:
                return custom.wetOdds[hill];
            case 2:
                return (book.weather >> hill) & 1;
            default:
                return NONE;
        }
    }

    public int purse(int person) throws NoSuchElementException {
        if (!custom.isPerson(person)) {
            throw new NoSuchElementException("no such person");
        }
        return book.purses[person];
    }

    public int loan(int loan, int what) {
        if (!custom.isLoan(loan)) {
            return NONE;
        }
        Terms terms = custom.terms[loan];
        switch (what) {
            case 0:
                return terms.lender;
            case 1:
                return terms.debtor;
            case 2:
                return book.owes[loan];
            case 3:
                return book.stages[loan];
            case 4:
                return book.ripeDays[loan];
            case 5:
                return terms.kind;
            case 6:
                return terms.bail;
            case 7:
                return book.paid[loan];
            default:
                return NONE;
        }
    }

    public int day(int wet) {
        if (!custom.isWeather(wet)) {
            return NONE;
        }
        past.keep(book);
        book.live(custom, wet);
        return book.loansAt(custom, Book.DUE);
    }

    public boolean early(int loan) {
        if (!custom.isLoan(loan) || !book.canPayNow(custom, loan)) {
            return false;
        }
        past.keep(book);
        book.payNow(custom, loan);
        return true;
    }

    public boolean undo() {
        return past.giveBack(book);
    }

    public int ruined() {
        return book.brokenPersons(custom);
    }

    public int has(int person) throws NoSuchElementException {
        if (!custom.isPerson(person)) {
            throw new NoSuchElementException("no such person");
        }
        return book.wealth(custom, person);
    }

    public long worth(int loan, int days, int what) {
        return share(Ahead.COINS_PAID, loan, days, what);
    }

    public long chance(int loan, int days, int what) {
        return share(Ahead.DUE_OR_PAID, loan, days, what);
    }

    /** The mean of what is asked of a loan, above or below the line, in lowest terms. */
    private long share(int asked, int loan, int days, int what) {
        if (what < 0 || what > 1 || !custom.isLoan(loan) || !canLookAhead(days)) {
            return NONE;
        }
        ahead.start(book);
        long sum = ahead.total(custom, days, asked, loan);
        long all = 1;
        for (int i = 0; i < custom.hills * days; i++) {
            all *= 8;
        }
        // All is a power of two: only twos can be cut.
        while (all > 1 && sum % 2 == 0) {
            all /= 2;
            sum /= 2;
        }
        return what == 0 ? sum : all;
    }

    private boolean canLookAhead(int days) {
        return days >= 1 && days <= MOST_AHEAD && custom.hills * days <= MOST_AHEAD;
    }

    public int better(int loan, int days) {
        if (!custom.isLoan(loan) || !canLookAhead(days) || !book.canPayNow(custom, loan)) {
            return CANNOT;
        }
        int debtor = custom.terms[loan].debtor;
        ahead.start(book);
        long waiting = ahead.total(custom, days, Ahead.COINS_HELD, debtor);
        ahead.startPaid(custom, loan);
        long paying = ahead.total(custom, days, Ahead.COINS_HELD, debtor);
        if (paying == waiting) {
            return 0;
        }
        return paying > waiting ? 1 : -1;
    }

    public int fits(int days, int person, int coins) {
        if (!canFit(days, person, coins)) {
            return NONE;
        }
        ahead.start(book);
        return ahead.findFitting(custom, days, person, coins);
    }

    public int fit(int days, int person, int coins, int i) {
        if (i < 0 || !canFit(days, person, coins)) {
            return NONE;
        }
        ahead.start(book);
        int found = ahead.findFitting(custom, days, person, coins);
        return i < found ? ahead.fittingAt(i) : NONE;
    }

    private boolean canFit(int days, int person, int coins) {
        return canLookAhead(days) && custom.isPerson(person) && coins >= 0 && coins <= MOST_COINS;
    }

    public int gain(int bets, int wet) throws NoSuchElementException {
        if (!custom.isBetSet(bets) || !custom.isWeather(wet)) {
            throw new NoSuchElementException("no such bets or no such weather");
        }
        return custom.gainOf(bets, wet);
    }

    public int sure(int what) {
        if (what < 0 || what > 1) {
            return NONE;
        }
        int bestSet = 0;
        int bestGain = 0;
        // The empty set, which gains 0 whatever comes, is the one to be beaten.
        for (int set = 1; set < 1 << custom.bets; set++) {
            int least = custom.leastGain(set);
            if (least > bestGain) {
                bestGain = least;
                bestSet = set;
            }
        }
        return what == 0 ? bestGain : bestSet;
    }

    public int lots(int seed, int years, int what) {
        if (seed < 0 || seed > 9999 || years < 1 || years > Years.MOST || what < 0 || what > 3) {
            return NONE;
        }
        drawn.drawAll(custom, book, seed, years);
        switch (what) {
            case 0:
                return drawn.paidLoans;
            case 1:
                return drawn.dueCoins;
            case 2:
                return drawn.floods;
            default:
                return drawn.ruinedPersons;
        }
    }

    public boolean mark(int mark, boolean back) {
        if (mark < 0 || mark >= MOST_MARKS) {
            return false;
        }
        if (!back) {
            marks[mark].lay(custom, book);
            return true;
        }
        if (!marks[mark].laid) {
            return false;
        }
        custom.copyFrom(marks[mark].custom);
        book.copyFrom(marks[mark].book);
        past.forget();
        return true;
    }

    public int count(int what) {
        switch (what) {
            case 0:
                return custom.hills;
            case 1:
                return custom.persons;
            case 2:
                return custom.loans;
            case 3:
                return custom.bets;
            case 4:
                return book.today;
            case 5:
                return book.floods;
            case 6:
                return past.kept;
            case 7:
                return teller.tape.length;
            default:
                return NONE;
        }
    }

    /** What was agreed on for one loan. */
    private static final class Terms {
        static final int PLAIN = 0;
        static final int DRY = 1;
        static final int BOTH = 2;
        static final int EITHER = 3;
        static final int HIDDEN = 4;
        static final int JOINED = 5;

        int lender;
        int debtor;
        int coins;
        int rate;
        int due;
        int hill;
        int kind;
        int bail;

        void copyFrom(Terms other) {
            lender = other.lender;
            debtor = other.debtor;
            coins = other.coins;
            rate = other.rate;
            due = other.due;
            hill = other.hill;
            kind = other.kind;
            bail = other.bail;
        }
    }

    /** What a text has told: it does not change from day to day. */
    private static final class Custom {
        int hills;
        int persons;
        int loans;
        int bets;
        final int[] dryOdds;
        final int[] wetOdds;
        final int[] coins;
        final Terms[] terms;
        final int[] prices;
        final int[] pays;
        /** Of each bet the weathers in which it pays, as bits. */
        final int[] wins;

        Custom() {
            dryOdds = new int[MOST_HILLS];
            wetOdds = new int[MOST_HILLS];
            coins = new int[MOST_PERSONS];
            terms = new Terms[MOST_LOANS];
            for (int i = 0; i < MOST_LOANS; i++) {
                terms[i] = new Terms();
            }
            prices = new int[MOST_BETS];
            pays = new int[MOST_BETS];
            wins = new int[MOST_BETS];
        }

        void clear() {
            hills = 0;
            persons = 0;
            loans = 0;
            bets = 0;
        }

        void copyFrom(Custom other) {
            hills = other.hills;
            persons = other.persons;
            loans = other.loans;
            bets = other.bets;
            System.arraycopy(other.dryOdds, 0, dryOdds, 0, MOST_HILLS);
            System.arraycopy(other.wetOdds, 0, wetOdds, 0, MOST_HILLS);
            System.arraycopy(other.coins, 0, coins, 0, MOST_PERSONS);
            for (int i = 0; i < MOST_LOANS; i++) {
                terms[i].copyFrom(other.terms[i]);
            }
            System.arraycopy(other.prices, 0, prices, 0, MOST_BETS);
            System.arraycopy(other.pays, 0, pays, 0, MOST_BETS);
            System.arraycopy(other.wins, 0, wins, 0, MOST_BETS);
        }

        boolean isHill(int hill) {
            return hill >= 0 && hill < hills;
        }

        boolean isPerson(int person) {
            return person >= 0 && person < persons;
        }

        boolean isLoan(int loan) {
            return loan >= 0 && loan < loans;
        }

        boolean isWeather(int wet) {
            return wet >= 0 && wet < 1 << hills;
        }

        boolean isBetSet(int set) {
            return set >= 0 && set < 1 << bets;
        }

        boolean isFlood(int wet) {
            return hills >= 2 && wet == (1 << hills) - 1;
        }

        boolean isRipe(int loan, int wet) {
            int hill = terms[loan].hill;
            int next = hill + 1 < hills ? hill + 1 : 0;
            boolean here = ((wet >> hill) & 1) == 1;
            boolean there = ((wet >> next) & 1) == 1;
            switch (terms[loan].kind) {
                case Terms.DRY:
                    return !here;
                case Terms.BOTH:
                    return here && there;
                case Terms.EITHER:
                    return here || there;
                default:
                    return here;
            }
        }

        /** In how many of 8 it rains on a hill behind such a day. */
        int oddsOfRain(int hill, int wetBefore) {
            return ((wetBefore >> hill) & 1) == 1 ? wetOdds[hill] : dryOdds[hill];
        }

        /** The odds of a weather behind another, in parts of 8 for each hill. */
        long oddsOf(int wet, int wetBefore) {
            long odds = 1;
            for (int hill = 0; hill < hills; hill++) {
                int rain = oddsOfRain(hill, wetBefore);
                odds *= ((wet >> hill) & 1) == 1 ? rain : 8 - rain;
            }
            return odds;
        }

        int gainOf(int set, int wet) {
            int gain = 0;
            for (int bet = 0; bet < bets; bet++) {
                if (((set >> bet) & 1) == 1) {
                    gain -= prices[bet];
                    gain += ((wins[bet] >> wet) & 1) == 1 ? pays[bet] : 0;
                }
            }
            return gain;
        }

        int leastGain(int set) {
            int least = gainOf(set, 0);
            for (int wet = 1; wet < 1 << hills; wet++) {
                least = Math.min(least, gainOf(set, wet));
            }
            return least;
        }
    }

    /** How all stands on a day: purses, loans, the weather. */
    private static final class Book {
        static final int LENT = 0;
        static final int DUE = 1;
        static final int PAID = 2;
        /** Each round but the last moves a coin of what is owed, which is far less in all. */
        private static final int MOST_ROUNDS = 1000000;

        int today;
        int floods;
        int weather;
        /** Loans that were called on the last day, as bits: one may be paid early behind it. */
        private int called;
        final int[] purses;
        final int[] owes;
        final int[] stages;
        final int[] ripeDays;
        final int[] paid;

        Book() {
            purses = new int[MOST_PERSONS];
            owes = new int[MOST_LOANS];
            stages = new int[MOST_LOANS];
            ripeDays = new int[MOST_LOANS];
            paid = new int[MOST_LOANS];
        }

        void open(Custom custom) {
            today = 0;
            floods = 0;
            weather = 0;
            called = 0;
            for (int person = 0; person < custom.persons; person++) {
                purses[person] = custom.coins[person];
            }
            for (int loan = 0; loan < custom.loans; loan++) {
                owes[loan] = custom.terms[loan].coins;
                stages[loan] = LENT;
                ripeDays[loan] = 0;
                paid[loan] = 0;
            }
        }

        void copyFrom(Book other) {
            today = other.today;
            floods = other.floods;
            weather = other.weather;
            called = other.called;
            System.arraycopy(other.purses, 0, purses, 0, MOST_PERSONS);
            System.arraycopy(other.owes, 0, owes, 0, MOST_LOANS);
            System.arraycopy(other.stages, 0, stages, 0, MOST_LOANS);
            System.arraycopy(other.ripeDays, 0, ripeDays, 0, MOST_LOANS);
            System.arraycopy(other.paid, 0, paid, 0, MOST_LOANS);
        }

        void live(Custom custom, int wet) {
            boolean flood = custom.isFlood(wet);
            ripen(custom, wet);
            if (flood) {
                floods++;
                callAllIn(custom);
            }
            joinDue(custom);
            called = calledOn(custom, wet, flood);
            settle(custom, wet != 0);
            closePaid(custom);
            today++;
            weather = wet;
        }

        private void ripen(Custom custom, int wet) {
            for (int loan = 0; loan < custom.loans; loan++) {
                if (stages[loan] != PAID && custom.isRipe(loan, wet)) {
                    ripeDays[loan]++;
                    owes[loan] += custom.terms[loan].rate;
                    if (stages[loan] == LENT && ripeDays[loan] >= custom.terms[loan].due) {
                        stages[loan] = DUE;
                    }
                }
            }
        }

        private void callAllIn(Custom custom) {
            for (int loan = 0; loan < custom.loans; loan++) {
                if (stages[loan] == LENT && custom.terms[loan].kind != Terms.HIDDEN) {
                    stages[loan] = DUE;
                }
            }
        }

        private void joinDue(Custom custom) {
            for (int loan = 0; loan < custom.loans; loan++) {
                if (stages[loan] == LENT && custom.terms[loan].kind == Terms.JOINED
                        && hasDueLoan(custom, custom.terms[loan].debtor)) {
                    stages[loan] = DUE;
                }
            }
        }

        private boolean hasDueLoan(Custom custom, int debtor) {
            for (int loan = 0; loan < custom.loans; loan++) {
                if (stages[loan] == DUE && custom.terms[loan].debtor == debtor) {
                    return true;
                }
            }
            return false;
        }

        private int calledOn(Custom custom, int wet, boolean flood) {
            int found = 0;
            for (int loan = 0; loan < custom.loans; loan++) {
                boolean byFlood = flood && custom.terms[loan].kind != Terms.HIDDEN;
                if (stages[loan] == DUE && (byFlood || custom.isRipe(loan, wet))) {
                    found |= 1 << loan;
                }
            }
            return found;
        }

        private boolean isCalled(int loan) {
            return ((called >> loan) & 1) == 1;
        }

        private void settle(Custom custom, boolean bailed) {
            boolean moved = called != 0;
            for (int round = 0; moved && round < MOST_ROUNDS; round++) {
                moved = false;
                for (int loan = 0; loan < custom.loans; loan++) {
                    Terms terms = custom.terms[loan];
                    if (isCalled(loan)) {
                        moved |= take(loan, terms.debtor, terms.lender);
                        moved |= bailed && terms.bail != NONE && take(loan, terms.bail, terms.lender);
                    }
                }
            }
        }

        /** The giver pays what the loan owes, as far as the purse goes; whether coins moved. */
        private boolean take(int loan, int giver, int lender) {
            int coins = owes[loan] < purses[giver] ? owes[loan] : purses[giver];
            if (coins <= 0) {
                return false;
            }
            purses[giver] -= coins;
            purses[lender] += coins;
            owes[loan] -= coins;
            paid[loan] += coins;
            return true;
        }

        private void closePaid(Custom custom) {
            for (int loan = 0; loan < custom.loans; loan++) {
                if (owes[loan] == 0) {
                    stages[loan] = PAID;
                }
            }
        }

        /** Debtors that are ruined, as bits. */
        int brokenPersons(Custom custom) {
            int broken = 0;
            for (int loan = 0; loan < custom.loans; loan++) {
                if (isCalled(loan) && stages[loan] != PAID) {
                    broken |= 1 << custom.terms[loan].debtor;
                }
            }
            return broken;
        }

        boolean canPayNow(Custom custom, int loan) {
            return stages[loan] != PAID && purses[custom.terms[loan].debtor] >= owes[loan];
        }

        void payNow(Custom custom, int loan) {
            take(loan, custom.terms[loan].debtor, custom.terms[loan].lender);
            stages[loan] = PAID;
        }

        int loansAt(Custom custom, int stage) {
            int found = 0;
            for (int loan = 0; loan < custom.loans; loan++) {
                found += stages[loan] == stage ? 1 : 0;
            }
            return found;
        }

        int coinsDue(Custom custom) {
            int coins = 0;
            for (int loan = 0; loan < custom.loans; loan++) {
                coins += stages[loan] == DUE ? owes[loan] : 0;
            }
            return coins;
        }

        int wealth(Custom custom, int person) {
            int coins = purses[person];
            for (int loan = 0; loan < custom.loans; loan++) {
                coins += custom.terms[loan].lender == person ? owes[loan] : 0;
                coins -= custom.terms[loan].debtor == person ? owes[loan] : 0;
            }
            return coins;
        }
    }

    /** The books ahead of the last days and early payments, in a ring. */
    private static final class Past {
        int kept;
        private int next;
        private final Book[] books;

        Past() {
            books = new Book[MOST_UNDONE];
            for (int i = 0; i < MOST_UNDONE; i++) {
                books[i] = new Book();
            }
        }

        void forget() {
            kept = 0;
        }

        void keep(Book book) {
            books[next].copyFrom(book);
            next = next + 1 < MOST_UNDONE ? next + 1 : 0;
            kept = Math.min(kept + 1, MOST_UNDONE);
        }

        boolean giveBack(Book book) {
            if (kept == 0) {
                return false;
            }
            next = next > 0 ? next - 1 : MOST_UNDONE - 1;
            kept--;
            book.copyFrom(books[next]);
            return true;
        }
    }

    /** A custom and its book, laid by. */
    private static final class Mark {
        boolean laid;
        final Custom custom;
        final Book book;

        Mark() {
            custom = new Custom();
            book = new Book();
        }

        void lay(Custom custom, Book book) {
            laid = true;
            this.custom.copyFrom(custom);
            this.book.copyFrom(book);
        }
    }

    /** Looks at all weathers of some days to come. */
    private static final class Ahead {
        static final int COINS_PAID = 0;
        static final int DUE_OR_PAID = 1;
        static final int COINS_HELD = 2;
        private static final int FITTING = 3;
        private static final int FIT_ROWS = 64;

        /** The book behind so many days; the first one is that of now. */
        private final Book[] books;
        /** The numbers of the weathers that fit, as bits. */
        private final long[] fitting;
        private int days;
        private int asked;
        private int subject;
        private int coins;
        private long sum;

        Ahead() {
            books = new Book[MOST_AHEAD + 1];
            for (int i = 0; i <= MOST_AHEAD; i++) {
                books[i] = new Book();
            }
            fitting = new long[FIT_ROWS];
        }

        void start(Book book) {
            books[0].copyFrom(book);
        }

        /** Starts from the same book once more, but with a loan paid early. */
        void startPaid(Custom custom, int loan) {
            books[0].payNow(custom, loan);
        }

        /** What is asked of the subject (a loan or a person), each weather by its odds. */
        long total(Custom custom, int days, int asked, int subject) {
            this.days = days;
            this.asked = asked;
            this.subject = subject;
            sum = 0;
            walk(custom, 0, 1, 0);
            return sum;
        }

        int findFitting(Custom custom, int days, int person, int coins) {
            this.coins = coins;
            for (int row = 0; row < FIT_ROWS; row++) {
                fitting[row] = 0;
            }
            return (int) total(custom, days, FITTING, person);
        }

        private void walk(Custom custom, int depth, long odds, int number) {
            if (depth >= days || depth >= MOST_AHEAD) {
                arrive(books[depth], odds, number);
                return;
            }
            for (int wet = 0; wet < 1 << custom.hills; wet++) {
                long oddsThen = odds * custom.oddsOf(wet, books[depth].weather);
                // What never comes adds nothing to a mean, but it may fit.
                if (oddsThen != 0 || asked == FITTING) {
                    books[depth + 1].copyFrom(books[depth]);
                    books[depth + 1].live(custom, wet);
                    walk(custom, depth + 1, oddsThen, number | wet << (custom.hills * depth));
                }
            }
        }

        private void arrive(Book then, long odds, int number) {
            switch (asked) {
                case COINS_PAID:
                    sum += odds * (then.paid[subject] - books[0].paid[subject]);
                    break;
                case DUE_OR_PAID:
                    sum += then.stages[subject] != Book.LENT ? odds : 0;
                    break;
                case COINS_HELD:
                    sum += odds * then.purses[subject];
                    break;
                default:
                    noteFit(then, number);
                    break;
            }
        }

        private void noteFit(Book then, int number) {
            int row = number >> 6;
            if (then.purses[subject] == coins && row >= 0 && row < FIT_ROWS) {
                fitting[row] |= 1L << (number & 63);
                sum++;
            }
        }

        /** The number of the i-th weather that fits, the least first. */
        int fittingAt(int i) {
            int left = i;
            for (int number = 0; number < FIT_ROWS * 64; number++) {
                if (((fitting[number >> 6] >> (number & 63)) & 1) == 1) {
                    if (left == 0) {
                        return number;
                    }
                    left--;
                }
            }
            return NONE;
        }
    }

    /** Draws years of weather and sums up how they end. */
    private static final class Years {
        static final int MOST = 20;
        private static final int DAYS = 60;

        int paidLoans;
        int dueCoins;
        int floods;
        int ruinedPersons;
        private long seed;
        private final Book book;

        Years() {
            book = new Book();
        }

        void drawAll(Custom custom, Book now, int seed, int years) {
            this.seed = seed;
            paidLoans = 0;
            dueCoins = 0;
            floods = 0;
            ruinedPersons = 0;
            for (int year = 0; year < years; year++) {
                book.copyFrom(now);
                for (int i = 0; i < DAYS; i++) {
                    book.live(custom, drawWeather(custom, book.weather));
                }
                paidLoans += book.loansAt(custom, Book.PAID);
                dueCoins += book.coinsDue(custom);
                floods += book.floods - now.floods;
                ruinedPersons += Integer.bitCount(book.brokenPersons(custom));
            }
        }

        private int drawWeather(Custom custom, int wetBefore) {
            int wet = 0;
            for (int hill = 0; hill < custom.hills; hill++) {
                if (drawBelow8() < custom.oddsOfRain(hill, wetBefore)) {
                    wet |= 1 << hill;
                }
            }
            return wet;
        }

        private int drawBelow8() {
            seed = (seed * 1103515245L + 12345L) % 2147483648L;
            return (int) (seed / 65536L % 8L);
        }
    }

    /** The words that are no names, and what stands for all others. */
    private enum Word {
        NO_WORD("", NONE, NONE),
        NAME("", NONE, NONE),
        HILL("hill", NONE, NONE),
        DRY("dry", Terms.DRY, NONE),
        WET("wet", NONE, HOW_MANY_WET),
        PURSE("purse", NONE, NONE),
        LOAN("loan", NONE, NONE),
        TO("to", NONE, NONE),
        COINS("coins", NONE, NONE),
        RATE("rate", NONE, NONE),
        DUE("due", NONE, NONE),
        ON("on", NONE, NONE),
        BAIL("bail", NONE, NONE),
        BET("bet", NONE, NONE),
        PAYS("pays", NONE, NONE),
        IF("if", NONE, NONE),
        PLAIN("plain", Terms.PLAIN, NONE),
        BOTH("both", Terms.BOTH, NONE),
        EITHER("either", Terms.EITHER, NONE),
        HIDDEN("hidden", Terms.HIDDEN, NONE),
        JOINED("joined", Terms.JOINED, NONE),
        FIRST("first", NONE, 0),
        SECOND("second", NONE, 1),
        THIRD("third", NONE, 2),
        FOURTH("fourth", NONE, 3),
        NOT("not", NONE, NONE),
        AND("and", NONE, NONE),
        OR("or", NONE, NONE);

        final String text;
        /** The kind of loan that it tells, or NONE. */
        final int kind;
        /** The hill whose rain it asks for, HOW_MANY_WET or NONE. */
        final int fact;

        Word(String text, int kind, int fact) {
            this.text = text;
            this.kind = kind;
            this.fact = fact;
        }
    }

    /** The signs that were fed, split into tokens, and the token that is read. */
    private static final class Tape {
        static final int END = 0;
        static final int WORD = 1;
        static final int NUMBER = 2;
        static final int SIGN = 3;
        static final int NO_TOKEN = 4;
        private static final int LONGEST_WORD = 8;
        private static final int LONGEST_NUMBER = 4;
        private static final String SIGNS = "()<=+-*;";
        private static final Word[] WORDS = Word.values();

        int length;
        /** Which token is read. */
        int at;
        private final char[] signs;
        /** Of each token what it is and where it begins; the last one is the end. */
        private final int[] types;
        private final int[] places;
        private final Word[] words;
        /** The number, the sign, or the letters of the word as one number. */
        private final long[] values;

        Tape() {
            signs = new char[MOST_SIGNS];
            types = new int[MOST_SIGNS + 1];
            places = new int[MOST_SIGNS + 1];
            words = new Word[MOST_SIGNS + 1];
            for (int i = 0; i <= MOST_SIGNS; i++) {
                words[i] = Word.NO_WORD;
            }
            values = new long[MOST_SIGNS + 1];
        }

        void empty() {
            length = 0;
        }

        void addBytes(long bytes) {
            for (int shift = 56; shift >= 0; shift -= 8) {
                int code = (int) (bytes >>> shift) & 255;
                if (length < MOST_SIGNS && (code == 10 || code >= 32 && code <= 126)) {
                    signs[length] = (char) code;
                    length++;
                }
            }
        }

        /** Splits all into tokens; the first one is read then. */
        void split() {
            int place = 0;
            at = 0;
            for (int i = 0; i < MOST_SIGNS && place < length; i++) {
                char sign = signs[place];
                if (sign == 10 || sign == ' ') {
                    place++;
                } else {
                    places[at] = place;
                    words[at] = Word.NO_WORD;
                    place = splitOff(sign, place);
                    at++;
                }
            }
            types[at] = END;
            places[at] = length;
            words[at] = Word.NO_WORD;
            at = 0;
        }

        /** Where the token that begins there ends: always behind its first sign. */
        private int splitOff(char sign, int place) {
            if (isLetter(sign)) {
                return splitWord(place);
            }
            if (isDigit(sign)) {
                return splitNumber(place);
            }
            types[at] = SIGNS.indexOf(sign) >= 0 ? SIGN : NO_TOKEN;
            values[at] = sign;
            return place + 1;
        }

        private int splitWord(int start) {
            int end = start;
            long letters = 0;
            while (end < length && isLetter(signs[end])) {
                letters = letters * 32 + (signs[end] - 'a' + 1);
                end++;
            }
            values[at] = letters;
            if (end - start > LONGEST_WORD) {
                types[at] = NO_TOKEN;
                return end;
            }
            types[at] = WORD;
            words[at] = Word.NAME;
            for (int i = 0; i < WORDS.length; i++) {
                if (standsAt(WORDS[i].text, start, end)) {
                    words[at] = WORDS[i];
                }
            }
            return end;
        }

        private boolean standsAt(String text, int start, int end) {
            if (text.length() != end - start) {
                return false;
            }
            for (int i = 0; i < text.length(); i++) {
                if (text.charAt(i) != signs[start + i]) {
                    return false;
                }
            }
            return true;
        }

        private int splitNumber(int start) {
            int end = start;
            long number = 0;
            while (end < length && isDigit(signs[end])) {
                number = number * 10 + (signs[end] - '0');
                end++;
            }
            values[at] = number;
            types[at] = end - start <= LONGEST_NUMBER ? NUMBER : NO_TOKEN;
            return end;
        }

        private static boolean isLetter(char sign) {
            return sign >= 'a' && sign <= 'z';
        }

        private static boolean isDigit(char sign) {
            return sign >= '0' && sign <= '9';
        }

        /** Reads on; behind the end stands nothing. */
        void readOn() {
            if (types[at] != END) {
                at++;
            }
        }

        boolean isAtEnd() {
            return types[at] == END;
        }

        boolean isNumber() {
            return types[at] == NUMBER;
        }

        boolean isWord(Word wanted) {
            return words[at] == wanted;
        }

        boolean isSign(char wanted) {
            return types[at] == SIGN && values[at] == wanted;
        }

        int place() {
            return places[at];
        }

        Word word() {
            return words[at];
        }

        long value() {
            return values[at];
        }
    }

    /** Reads the tape as a custom. */
    private static final class Teller {
        private static final int OUT_OF_PLACE = 1;
        private static final int UNKNOWN = 2;
        private static final int TOLD_ALREADY = 3;
        private static final int WRONG_NUMBER = 4;
        private static final int TOO_MANY = 5;
        private static final int DEEPEST = 5;
        private static final int ALL_WEATHERS = 1 << MOST_HILLS;

        final Tape tape;
        final Custom told;
        private int fault;
        /** The weather for which an expression is read. */
        private int weather;
        private final long[] hillNames;
        private final long[] personNames;

        Teller() {
            tape = new Tape();
            told = new Custom();
            hillNames = new long[MOST_HILLS];
            personNames = new long[MOST_PERSONS];
        }

        /** The fault, or 0. */
        int readTape() {
            fault = 0;
            told.clear();
            tape.split();
            for (int i = 0; i <= MOST_SIGNS && fault == 0 && !tape.isAtEnd(); i++) {
                readSentence();
            }
            return fault;
        }

        /** Only the first fault counts; what is read behind it is thrown away. */
        private void fail(int kind) {
            if (fault == 0) {
                fault = kind + 16 * tape.place();
            }
        }

        private void readSentence() {
            if (tape.isWord(Word.HILL)) {
                readHill();
            } else if (tape.isWord(Word.PURSE)) {
                readPurse();
            } else if (tape.isWord(Word.LOAN)) {
                readLoan();
            } else if (tape.isWord(Word.BET)) {
                readBet();
            } else {
                fail(OUT_OF_PLACE);
            }
        }

        private void readHill() {
            int hill = told.hills;
            if (hill >= MOST_HILLS) {
                fail(TOO_MANY);
                return;
            }
            tape.readOn();
            hillNames[hill] = readNewName();
            readWord(Word.DRY);
            told.dryOdds[hill] = readNumber(0, 8);
            readWord(Word.WET);
            told.wetOdds[hill] = readNumber(0, 8);
            readSign(';');
            told.hills++;
        }

        private void readPurse() {
            int person = told.persons;
            if (person >= MOST_PERSONS) {
                fail(TOO_MANY);
                return;
            }
            tape.readOn();
            personNames[person] = readNewName();
            told.coins[person] = readNumber(0, 9999);
            readSign(';');
            told.persons++;
        }

        private void readLoan() {
            if (told.loans >= MOST_LOANS) {
                fail(TOO_MANY);
                return;
            }
            Terms terms = told.terms[told.loans];
            tape.readOn();
            terms.lender = readPerson(NONE, NONE);
            readWord(Word.TO);
            terms.debtor = readPerson(terms.lender, NONE);
            readWord(Word.COINS);
            terms.coins = readNumber(1, 999);
            readWord(Word.RATE);
            terms.rate = readNumber(0, 99);
            readWord(Word.DUE);
            terms.due = readNumber(1, 9);
            readWord(Word.ON);
            terms.hill = readToldName(hillNames, told.hills, NONE, NONE);
            terms.kind = readKind();
            terms.bail = NONE;
            if (tape.isWord(Word.BAIL)) {
                tape.readOn();
                terms.bail = readPerson(terms.lender, terms.debtor);
            }
            readSign(';');
            told.loans++;
        }

        private void readBet() {
            int bet = told.bets;
            if (bet >= MOST_BETS) {
                fail(TOO_MANY);
                return;
            }
            tape.readOn();
            told.prices[bet] = readNumber(0, 999);
            readWord(Word.PAYS);
            told.pays[bet] = readNumber(0, 999);
            readWord(Word.IF);
            told.wins[bet] = 0;
            // The expression is read once for each weather, so that no tree of it need be kept.
            int start = tape.at;
            for (int wet = 0; wet < ALL_WEATHERS && fault == 0; wet++) {
                tape.at = start;
                weather = wet;
                if (readExpression(0) != 0) {
                    told.wins[bet] |= 1 << wet;
                }
            }
            readSign(';');
            told.bets++;
        }

        private void readWord(Word wanted) {
            if (tape.isWord(wanted)) {
                tape.readOn();
            } else {
                fail(OUT_OF_PLACE);
            }
        }

        private void readSign(char wanted) {
            if (tape.isSign(wanted)) {
                tape.readOn();
            } else {
                fail(OUT_OF_PLACE);
            }
        }

        private int readNumber(int least, int most) {
            if (!tape.isNumber()) {
                fail(OUT_OF_PLACE);
                return least;
            }
            int number = (int) tape.value();
            if (number < least || number > most) {
                fail(WRONG_NUMBER);
                return least;
            }
            tape.readOn();
            return number;
        }

        /** A name that neither a hill nor a person bears. */
        private long readNewName() {
            long name = tape.value();
            if (!tape.isWord(Word.NAME)) {
                fail(OUT_OF_PLACE);
            } else if (findName(name, hillNames, told.hills) != NONE
                    || findName(name, personNames, told.persons) != NONE) {
                fail(TOLD_ALREADY);
            } else {
                tape.readOn();
            }
            return name;
        }

        private int findName(long name, long[] names, int many) {
            for (int i = 0; i < many; i++) {
                if (names[i] == name) {
                    return i;
                }
            }
            return NONE;
        }

        private int readPerson(int other, int another) {
            return readToldName(personNames, told.persons, other, another);
        }

        /** Which one of so many bears the name; it must be neither of two others. */
        private int readToldName(long[] names, int many, int other, int another) {
            int found = findName(tape.value(), names, many);
            if (!tape.isWord(Word.NAME)) {
                fail(OUT_OF_PLACE);
            } else if (found == NONE) {
                fail(UNKNOWN);
            } else if (found == other || found == another) {
                fail(TOLD_ALREADY);
            } else {
                tape.readOn();
            }
            return found;
        }

        private int readKind() {
            int kind = tape.word().kind;
            if (kind == NONE) {
                fail(OUT_OF_PLACE);
            } else {
                tape.readOn();
            }
            return kind;
        }

        private int readExpression(int depth) {
            int value = readTest(depth);
            for (int i = 0; i < MOST_SIGNS && fault == 0; i++) {
                boolean and = tape.isWord(Word.AND);
                if (!and && !tape.isWord(Word.OR)) {
                    return value;
                }
                tape.readOn();
                int other = readTest(depth);
                boolean so = and ? value != 0 && other != 0 : value != 0 || other != 0;
                value = so ? 1 : 0;
            }
            return value;
        }

        private int readTest(int depth) {
            int value = readSum(depth);
            boolean less = tape.isSign('<');
            if (fault != 0 || !less && !tape.isSign('=')) {
                return value;
            }
            tape.readOn();
            int other = readSum(depth);
            boolean so = less ? value < other : value == other;
            return so ? 1 : 0;
        }

        private int readSum(int depth) {
            int value = readProduct(depth);
            for (int i = 0; i < MOST_SIGNS && fault == 0; i++) {
                boolean plus = tape.isSign('+');
                if (!plus && !tape.isSign('-')) {
                    return value;
                }
                tape.readOn();
                int other = readProduct(depth);
                value = plus ? value + other : value - other;
            }
            return value;
        }

        private int readProduct(int depth) {
            int value = readPart(depth);
            for (int i = 0; i < MOST_SIGNS && fault == 0; i++) {
                if (!tape.isSign('*')) {
                    return value;
                }
                tape.readOn();
                value *= readPart(depth);
            }
            return value;
        }

        private int readPart(int depth) {
            boolean number = tape.isNumber();
            boolean not = tape.isWord(Word.NOT);
            int fact = tape.word().fact;
            if (!number && !not && fact == NONE && !tape.isSign('(')) {
                fail(OUT_OF_PLACE);
            } else if (depth >= DEEPEST) {
                fail(TOO_MANY);
            }
            if (fault != 0) {
                return 0;
            }
            long value = tape.value();
            tape.readOn();
            if (number) {
                return (int) value;
            }
            if (fact != NONE) {
                return factNow(fact);
            }
            if (not) {
                return readPart(depth + 1) == 0 ? 1 : 0;
            }
            int inner = readExpression(depth + 1);
            readSign(')');
            return inner;
        }

        private int factNow(int fact) {
            return fact == HOW_MANY_WET ? Integer.bitCount(weather) : (weather >> fact) & 1;
        }
    }
}
