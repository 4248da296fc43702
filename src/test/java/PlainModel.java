import java.math.BigInteger;
import java.util.ArrayDeque;
import java.util.ArrayList;
import java.util.Arrays;
import java.util.Deque;
import java.util.List;
import java.util.NoSuchElementException;
import java.util.Set;

/** The document told a second time, with the whole library and without thrift, to compare with. */
final class PlainModel {
    private static final Set<String> RESERVED = Set.of("hill", "dry", "wet", "purse", "loan", "to", "coins", "rate",
            "due", "on", "bail", "bet", "pays", "if", "plain", "both", "either", "hidden", "joined", "first",
            "second", "third", "fourth", "not", "and", "or");
    private static final List<String> KINDS = List.of("plain", "dry", "both", "either", "hidden", "joined");
    private static final List<String> FACTS = List.of("first", "second", "third", "fourth", "wet");

    interface Expr {
        int at(int wet);
    }

    record Hill(String name, int dry, int wet) { }

    record Person(String name, int coins) { }

    record Deal(int lender, int debtor, int coins, int rate, int due, int hill, String kind, int bail) { }

    record Bet(int price, int pays, Expr test) { }

    static final class Rules {
        final List<Hill> hills = new ArrayList<>();
        final List<Person> persons = new ArrayList<>();
        final List<Deal> deals = new ArrayList<>();
        final List<Bet> bets = new ArrayList<>();
    }

    static final class State implements Cloneable {
        int day;
        int floods;
        int weather;
        List<Integer> called = List.of();
        int[] purse;
        int[] owes;
        int[] stage;
        int[] ripe;
        int[] paid;

        State(Rules rules) {
            purse = rules.persons.stream().mapToInt(Person::coins).toArray();
            owes = rules.deals.stream().mapToInt(Deal::coins).toArray();
            stage = new int[owes.length];
            ripe = new int[owes.length];
            paid = new int[owes.length];
        }

        State copy() {
            try {
                State s = (State) clone();
                s.purse = purse.clone();
                s.owes = owes.clone();
                s.stage = stage.clone();
                s.ripe = ripe.clone();
                s.paid = paid.clone();
                return s;
            } catch (CloneNotSupportedException e) {
                throw new IllegalStateException(e);
            }
        }
    }

    private final StringBuilder tape = new StringBuilder();
    private Rules rules = new Rules();
    private State now = new State(rules);
    private final Deque<State> past = new ArrayDeque<>();
    private final Rules[] markRules = new Rules[4];
    private final State[] markStates = new State[4];

    int feed(long... longs) {
        for (long l : longs) {
            for (byte b : BigInteger.valueOf(l).and(new BigInteger("ffffffffffffffff", 16)).add(BigInteger.ONE.shiftLeft(64))
                    .toByteArray()) {
                tape.append((char) (b & 255));
            }
            // The leading byte 1 only keeps the zeros.
            tape.deleteCharAt(tape.length() - 9);
        }
        String kept = tape.toString().replaceAll("[^\\n -~]", "");
        tape.setLength(0);
        tape.append(kept, 0, Math.min(1000, kept.length()));
        return tape.length();
    }

    static final class Fault extends Exception {
        private static final long serialVersionUID = 1;
        final int value;

        Fault(int kind, int place) {
            value = kind + 16 * place;
        }
    }

    record Token(String text, int place) { }

    private List<Token> tokens;
    private int at;

    int custom() {
        String text = tape.toString();
        tape.setLength(0);
        tokens = new ArrayList<>();
        java.util.regex.Matcher m = java.util.regex.Pattern.compile("[a-z]+|[0-9]+|[^ \\n]").matcher(text);
        while (m.find()) {
            tokens.add(new Token(m.group(), m.start()));
        }
        tokens.add(new Token("", text.length()));
        at = 0;
        try {
            Rules told = new Rules();
            while (!peek().isEmpty()) {
                sentence(told);
            }
            rules = told;
            now = new State(told);
            past.clear();
            return 0;
        } catch (Fault f) {
            return f.value;
        }
    }

    private String peek() {
        return tokens.get(at).text;
    }

    private Fault wrong(int kind) {
        return new Fault(kind, tokens.get(at).place);
    }

    private void word(String wanted) throws Fault {
        if (!peek().equals(wanted)) {
            throw wrong(1);
        }
        at++;
    }

    private String name() throws Fault {
        if (!peek().matches("[a-z]{1,8}") || RESERVED.contains(peek())) {
            throw wrong(1);
        }
        return peek();
    }

    private int number(int least, int most) throws Fault {
        if (!peek().matches("[0-9]{1,4}")) {
            throw wrong(1);
        }
        int n = Integer.parseInt(peek());
        if (n < least || n > most) {
            throw wrong(4);
        }
        at++;
        return n;
    }

    private String newName(Rules r) throws Fault {
        String n = name();
        if (r.hills.stream().anyMatch(h -> h.name.equals(n)) || r.persons.stream().anyMatch(p -> p.name.equals(n))) {
            throw wrong(3);
        }
        at++;
        return n;
    }

    private int person(Rules r, int... not) throws Fault {
        String n = name();
        int found = r.persons.stream().map(Person::name).toList().indexOf(n);
        if (found < 0) {
            throw wrong(2);
        }
        if (Arrays.stream(not).anyMatch(p -> p == found)) {
            throw wrong(3);
        }
        at++;
        return found;
    }

    private void sentence(Rules r) throws Fault {
        switch (peek()) {
            case "hill" -> {
                room(r.hills.size() < 4);
                String n = newName(r);
                word("dry");
                int dry = number(0, 8);
                word("wet");
                r.hills.add(new Hill(n, dry, number(0, 8)));
            }
            case "purse" -> {
                room(r.persons.size() < 6);
                String n = newName(r);
                r.persons.add(new Person(n, number(0, 9999)));
            }
            case "loan" -> {
                room(r.deals.size() < 10);
                r.deals.add(deal(r));
            }
            case "bet" -> {
                room(r.bets.size() < 8);
                int price = number(0, 999);
                word("pays");
                int pays = number(0, 999);
                word("if");
                r.bets.add(new Bet(price, pays, expr(0)));
            }
            default -> throw wrong(1);
        }
        word(";");
    }

    private void room(boolean is) throws Fault {
        if (!is) {
            throw wrong(5);
        }
        at++;
    }

    private Deal deal(Rules r) throws Fault {
        int lender = person(r);
        word("to");
        int debtor = person(r, lender);
        word("coins");
        int coins = number(1, 999);
        word("rate");
        int rate = number(0, 99);
        word("due");
        int due = number(1, 9);
        word("on");
        int hill = r.hills.stream().map(Hill::name).toList().indexOf(name());
        if (hill < 0) {
            throw wrong(2);
        }
        at++;
        String kind = peek();
        if (!KINDS.contains(kind)) {
            throw wrong(1);
        }
        at++;
        int bail = -1;
        if (peek().equals("bail")) {
            at++;
            bail = person(r, lender, debtor);
        }
        return new Deal(lender, debtor, coins, rate, due, hill, kind, bail);
    }

    private static int bit(boolean b) {
        return b ? 1 : 0;
    }

    private Expr expr(int depth) throws Fault {
        Expr left = test(depth);
        while (peek().equals("and") || peek().equals("or")) {
            boolean and = tokens.get(at++).text.equals("and");
            Expr a = left;
            Expr b = test(depth);
            left = and ? w -> bit(a.at(w) != 0 && b.at(w) != 0) : w -> bit(a.at(w) != 0 || b.at(w) != 0);
        }
        return left;
    }

    private Expr test(int depth) throws Fault {
        Expr a = sum(depth);
        if (peek().equals("<")) {
            at++;
            Expr b = sum(depth);
            return w -> bit(a.at(w) < b.at(w));
        }
        if (peek().equals("=")) {
            at++;
            Expr b = sum(depth);
            return w -> bit(a.at(w) == b.at(w));
        }
        return a;
    }

    private Expr sum(int depth) throws Fault {
        Expr left = product(depth);
        while (peek().equals("+") || peek().equals("-")) {
            int sign = tokens.get(at++).text.equals("+") ? 1 : -1;
            Expr a = left;
            Expr b = product(depth);
            left = w -> a.at(w) + sign * b.at(w);
        }
        return left;
    }

    private Expr product(int depth) throws Fault {
        Expr left = part(depth);
        while (peek().equals("*")) {
            at++;
            Expr a = left;
            Expr b = part(depth);
            left = w -> a.at(w) * b.at(w);
        }
        return left;
    }

    private Expr part(int depth) throws Fault {
        String t = peek();
        boolean number = t.matches("[0-9]{1,4}");
        if (!number && !FACTS.contains(t) && !t.equals("not") && !t.equals("(")) {
            throw wrong(1);
        }
        if (depth == 5) {
            throw wrong(5);
        }
        at++;
        if (number) {
            int n = Integer.parseInt(t);
            return w -> n;
        }
        if (t.equals("not")) {
            Expr a = part(depth + 1);
            return w -> bit(a.at(w) == 0);
        }
        if (t.equals("(")) {
            Expr a = expr(depth + 1);
            word(")");
            return a;
        }
        int fact = FACTS.indexOf(t);
        return fact == 4 ? Integer::bitCount : w -> w >> fact & 1;
    }

    private boolean ripe(Deal d, int wet) {
        boolean here = (wet >> d.hill & 1) == 1;
        boolean next = (wet >> (d.hill + 1) % rules.hills.size() & 1) == 1;
        return switch (d.kind) {
            case "dry" -> !here;
            case "both" -> here && next;
            case "either" -> here || next;
            default -> here;
        };
    }

    private void pay(State s, int loan, int from) {
        int coins = Math.min(s.owes[loan], s.purse[from]);
        s.purse[from] -= coins;
        s.purse[rules.deals.get(loan).lender] += coins;
        s.owes[loan] -= coins;
        s.paid[loan] += coins;
    }

    private boolean flood(int wet) {
        return rules.hills.size() > 1 && wet + 1 == 1 << rules.hills.size();
    }

    private void pass(State s, int wet) {
        int n = rules.deals.size();
        for (int i = 0; i < n; i++) {
            Deal d = rules.deals.get(i);
            if (s.stage[i] < 2 && ripe(d, wet)) {
                s.ripe[i]++;
                s.owes[i] += d.rate;
            }
            if (s.stage[i] == 0 && (s.ripe[i] == d.due || flood(wet) && !d.kind.equals("hidden"))) {
                s.stage[i] = 1;
            }
        }
        for (int i = 0; i < n; i++) {
            for (int k = 0; k < n; k++) {
                if (s.stage[i] == 0 && rules.deals.get(i).kind.equals("joined") && s.stage[k] == 1
                        && rules.deals.get(k).debtor == rules.deals.get(i).debtor) {
                    s.stage[i] = 1;
                }
            }
        }
        settle(s, wet);
        s.day++;
        s.weather = wet;
        s.floods += bit(flood(wet));
    }

    private void settle(State s, int wet) {
        List<Integer> called = new ArrayList<>();
        for (int i = 0; i < rules.deals.size(); i++) {
            if (s.stage[i] == 1 && (ripe(rules.deals.get(i), wet) || flood(wet))) {
                called.add(i);
            }
        }
        int[] before;
        do {
            before = s.owes.clone();
            for (int i : called) {
                pay(s, i, rules.deals.get(i).debtor);
                if (rules.deals.get(i).bail >= 0 && wet != 0) {
                    pay(s, i, rules.deals.get(i).bail);
                }
            }
        } while (!Arrays.equals(before, s.owes));
        for (int i : called) {
            if (s.owes[i] == 0) {
                s.stage[i] = 2;
            }
        }
        s.called = called;
    }

    private Set<Integer> ruinedIn(State s) {
        return s.called.stream().filter(i -> s.stage[i] != 2).map(i -> rules.deals.get(i).debtor)
                .collect(java.util.stream.Collectors.toSet());
    }

    private boolean noLoan(int loan) {
        return loan < 0 || loan >= rules.deals.size();
    }

    private void remember() {
        past.push(now.copy());
        while (past.size() > 30) {
            past.removeLast();
        }
    }

    int hill(int hill, int what) {
        if (hill < 0 || hill >= rules.hills.size() || what < 0 || what > 2) {
            return -1;
        }
        Hill h = rules.hills.get(hill);
        return what == 0 ? h.dry : what == 1 ? h.wet : now.weather >> hill & 1;
    }

    private void needPerson(int person) {
        if (person < 0 || person >= rules.persons.size()) {
            throw new NoSuchElementException();
        }
    }

    int purse(int person) {
        needPerson(person);
        return now.purse[person];
    }

    int loan(int loan, int what) {
        if (noLoan(loan) || what < 0 || what > 7) {
            return -1;
        }
        Deal d = rules.deals.get(loan);
        return new int[] {d.lender, d.debtor, now.owes[loan], now.stage[loan], now.ripe[loan], KINDS.indexOf(d.kind),
            d.bail, now.paid[loan]}[what];
    }

    int day(int wet) {
        if (wet < 0 || wet >= 1 << rules.hills.size()) {
            return -1;
        }
        remember();
        pass(now, wet);
        return (int) Arrays.stream(now.stage).filter(s -> s == 1).count();
    }

    private boolean payEarly(State s, int loan) {
        if (noLoan(loan) || s.stage[loan] == 2 || s.purse[rules.deals.get(loan).debtor] < s.owes[loan]) {
            return false;
        }
        pay(s, loan, rules.deals.get(loan).debtor);
        s.stage[loan] = 2;
        return true;
    }

    boolean early(int loan) {
        State then = now.copy();
        if (!payEarly(then, loan)) {
            return false;
        }
        remember();
        now = then;
        return true;
    }

    boolean undo() {
        if (past.isEmpty()) {
            return false;
        }
        now = past.pop();
        return true;
    }

    int ruined() {
        return ruinedIn(now).stream().mapToInt(p -> 1 << p).sum();
    }

    int has(int person) {
        needPerson(person);
        int coins = now.purse[person];
        for (int i = 0; i < rules.deals.size(); i++) {
            coins += now.owes[i] * (bit(rules.deals.get(i).lender == person) - bit(rules.deals.get(i).debtor == person));
        }
        return coins;
    }

    private boolean tooFar(int days) {
        return days < 1 || days > 12 || days * rules.hills.size() > 12;
    }

    private BigInteger odds(int days, int number) {
        BigInteger odds = BigInteger.ONE;
        int before = now.weather;
        for (int d = 0; d < days; d++) {
            int wet = number >> d * rules.hills.size() & (1 << rules.hills.size()) - 1;
            for (int h = 0; h < rules.hills.size(); h++) {
                int rain = (before >> h & 1) == 1 ? rules.hills.get(h).wet : rules.hills.get(h).dry;
                odds = odds.multiply(BigInteger.valueOf((wet >> h & 1) == 1 ? rain : 8 - rain));
            }
            before = wet;
        }
        return odds;
    }

    private State behind(State from, int days, int number) {
        State s = from.copy();
        for (int d = 0; d < days; d++) {
            pass(s, number >> d * rules.hills.size() & (1 << rules.hills.size()) - 1);
        }
        return s;
    }

    interface Value {
        int of(State s);
    }

    private BigInteger sum(State from, int days, Value value) {
        BigInteger sum = BigInteger.ZERO;
        for (int number = 0; number < 1 << days * rules.hills.size(); number++) {
            sum = sum.add(odds(days, number).multiply(BigInteger.valueOf(value.of(behind(from, days, number)))));
        }
        return sum;
    }

    private long share(int loan, int days, int what, Value value) {
        if (noLoan(loan) || tooFar(days) || what < 0 || what > 1) {
            return -1;
        }
        BigInteger above = sum(now, days, value);
        BigInteger below = BigInteger.valueOf(8).pow(days * rules.hills.size());
        BigInteger common = above.gcd(below);
        return (what == 0 ? above : below).divide(common).longValueExact();
    }

    long worth(int loan, int days, int what) {
        return share(loan, days, what, s -> s.paid[loan] - now.paid[loan]);
    }

    long chance(int loan, int days, int what) {
        return share(loan, days, what, s -> bit(s.stage[loan] > 0));
    }

    int better(int loan, int days) {
        State then = now.copy();
        if (noLoan(loan) || tooFar(days) || !payEarly(then, loan)) {
            return -2;
        }
        int debtor = rules.deals.get(loan).debtor;
        return sum(then, days, s -> s.purse[debtor]).compareTo(sum(now, days, s -> s.purse[debtor]));
    }

    private List<Integer> fitting(int days, int person, int coins) {
        if (tooFar(days) || person < 0 || person >= rules.persons.size() || coins < 0 || coins > 99999) {
            return null;
        }
        List<Integer> found = new ArrayList<>();
        for (int number = 0; number < 1 << days * rules.hills.size(); number++) {
            if (behind(now, days, number).purse[person] == coins) {
                found.add(number);
            }
        }
        return found;
    }

    int fits(int days, int person, int coins) {
        List<Integer> found = fitting(days, person, coins);
        return found == null ? -1 : found.size();
    }

    int fit(int days, int person, int coins, int i) {
        List<Integer> found = fitting(days, person, coins);
        return found == null || i < 0 || i >= found.size() ? -1 : found.get(i);
    }

    int gain(int bets, int wet) {
        if (bets < 0 || bets >= 1 << rules.bets.size() || wet < 0 || wet >= 1 << rules.hills.size()) {
            throw new NoSuchElementException();
        }
        int gain = 0;
        for (int b = 0; b < rules.bets.size(); b++) {
            Bet bet = rules.bets.get(b);
            if ((bets >> b & 1) == 1) {
                gain += (bet.test.at(wet) != 0 ? bet.pays : 0) - bet.price;
            }
        }
        return gain;
    }

    int sure(int what) {
        int best = Integer.MIN_VALUE;
        int bestSet = -1;
        for (int set = 0; set < 1 << rules.bets.size(); set++) {
            int least = Integer.MAX_VALUE;
            for (int wet = 0; wet < 1 << rules.hills.size(); wet++) {
                least = Math.min(least, gain(set, wet));
            }
            if (least > best) {
                best = least;
                bestSet = set;
            }
        }
        return what == 0 ? best : what == 1 ? bestSet : -1;
    }

    int lots(int seed, int years, int what) {
        if (seed < 0 || seed > 9999 || years < 1 || years > 20 || what < 0 || what > 3) {
            return -1;
        }
        BigInteger g = BigInteger.valueOf(seed);
        int[] all = new int[4];
        for (int year = 0; year < years; year++) {
            State s = now.copy();
            for (int d = 0; d < 60; d++) {
                int wet = 0;
                for (int h = 0; h < rules.hills.size(); h++) {
                    g = g.multiply(BigInteger.valueOf(1103515245)).add(BigInteger.valueOf(12345))
                            .mod(BigInteger.valueOf(2147483648L));
                    int rain = (s.weather >> h & 1) == 1 ? rules.hills.get(h).wet : rules.hills.get(h).dry;
                    wet |= bit(g.longValue() / 65536 % 8 < rain) << h;
                }
                pass(s, wet);
            }
            all[0] += (int) Arrays.stream(s.stage).filter(st -> st == 2).count();
            for (int i = 0; i < s.owes.length; i++) {
                all[1] += s.stage[i] == 1 ? s.owes[i] : 0;
            }
            all[2] += s.floods - now.floods;
            all[3] += ruinedIn(s).size();
        }
        return all[what];
    }

    boolean mark(int mark, boolean back) {
        if (mark < 0 || mark > 3 || back && markRules[mark] == null) {
            return false;
        }
        if (back) {
            rules = markRules[mark];
            now = markStates[mark].copy();
            past.clear();
        } else {
            markRules[mark] = rules;
            markStates[mark] = now.copy();
        }
        return true;
    }

    int count(int what) {
        return what < 0 || what > 7 ? -1 : new int[] {rules.hills.size(), rules.persons.size(), rules.deals.size(),
            rules.bets.size(), now.day, now.floods, past.size(), tape.length()}[what];
    }
}
