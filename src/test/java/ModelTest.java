import java.nio.charset.StandardCharsets;
import java.util.Random;

/** All promises: many drawn runs of calls, each answer compared with the plain model's. */
public final class ModelTest {
    private static final Check CHECK = new Check();
    private static final String[] KINDS = {"plain", "dry", "both", "either", "hidden", "joined"};
    private static final String[] BITS = {"hill", "purse", "loan", "bet", "h", "k", "a", "b", "zz", "dry", "wet", "(",
        ")", ";", "<", "=", "+", "-", "*", "1", "9999", "12345", "abcdefghi", "not", "and", "or", "first", "bail", "to",
        "if", "#", "A", "plain", "joined"};

    private final Random random;
    private final int run;
    private final RainLoans x = new RainLoans();
    private final PlainModel model = new PlainModel();
    private int hills;
    private int persons;

    private ModelTest(int run) {
        this.run = run;
        random = new Random(run);
    }

    private int below(int n) {
        return random.nextInt(n);
    }

    private boolean oneIn(int n) {
        return below(n) == 0;
    }

    private String expression(int depth) {
        String[] joins = {" and ", " or ", "<", "=", "+", "-", "*"};
        StringBuilder text = new StringBuilder(part(depth));
        boolean compared = false;
        for (int i = below(4); i > 0; i--) {
            String join = joins[below(7)];
            if (join.equals("<") || join.equals("=")) {
                join = compared && !oneIn(30) ? "*" : join;
                compared = true;
            } else if (join.startsWith(" ")) {
                compared = false;
            }
            text.append(join).append(part(depth));
        }
        return text.toString();
    }

    private String part(int depth) {
        int what = below(depth < (oneIn(20) ? 6 : 4) ? 9 : 5);
        String[] facts = {"first", "second", "third", "fourth", "wet"};
        return what < 3 ? facts[below(5)] : what < 5 ? "" + below(oneIn(3) ? 10000 : 3)
                : what < 7 ? "not " + part(depth + 1) : "(" + expression(depth + 1) + ")";
    }

    private String text() {
        StringBuilder text = new StringBuilder();
        hills = oneIn(10) ? 0 : 1 + below(oneIn(40) ? 5 : 4);
        persons = below(oneIn(40) ? 8 : 7);
        for (int i = 0; i < hills; i++) {
            text.append("hill h").append((char) ('a' + i)).append(" dry ").append(below(9)).append(" wet ")
                    .append(below(9)).append(";");
        }
        for (int i = 0; i < persons; i++) {
            // Seldom a person bears the name of a hill.
            text.append("purse ").append(oneIn(90) ? "h" : "").append((char) ('a' + i))
                    .append(oneIn(3) ? " 0" : " " + below(oneIn(9) ? 9999 : 90))
                    .append(oneIn(4) ? ";\n" : ";");
        }
        int loans = hills == 0 || persons < 2 ? 0 : below(oneIn(30) ? 12 : 11);
        for (int i = 0; i < loans; i++) {
            text.append(loanSentence());
        }
        for (int i = below(oneIn(30) ? 10 : 5); i > 0; i--) {
            text.append("bet ").append(below(oneIn(9) ? 1000 : 12)).append(" pays ").append(below(oneIn(9) ? 1000 : 30))
                    .append(" if ").append(expression(0)).append(";");
        }
        return oneIn(4) ? spoiled(text) : text.toString();
    }

    private String loanSentence() {
        int lender = below(persons);
        int debtor = (lender + 1 + below(persons - 1)) % persons;
        String bail = "";
        for (int p = below(persons); oneIn(2) && p < persons; p++) {
            if (p != lender && p != debtor) {
                bail = " bail " + (char) ('a' + p);
            }
        }
        return "loan " + (char) ('a' + lender) + " to " + (char) ('a' + debtor) + " coins " + (1 + below(oneIn(5) ? 999 : 60))
                + " rate " + below(oneIn(3) ? 100 : 5) + " due " + (1 + below(oneIn(2) ? 2 : 9)) + " on h"
                + (char) ('a' + below(hills)) + " " + KINDS[below(6)] + bail + ";";
    }

    private String spoiled(StringBuilder text) {
        for (int i = 1 + below(2); i > 0; i--) {
            int at = below(text.length() + 1);
            if (oneIn(3) && at < text.length()) {
                text.deleteCharAt(at);
            } else if (oneIn(5)) {
                text.setLength(at);
            } else {
                text.insert(at, (oneIn(2) ? " " : "") + BITS[below(BITS.length)] + (oneIn(2) ? " " : ""));
            }
        }
        return text.toString();
    }

    private void same(String call, long got, long due) {
        CHECK.same("run " + run + ": " + call, got, due);
    }

    private void tell() {
        byte[] bytes = text().getBytes(StandardCharsets.ISO_8859_1);
        for (int i = 0; i < bytes.length; i += 24) {
            long[] l = Check.pack(bytes, i);
            same("feed", x.feed(l[0], l[1], l[2]), model.feed(l));
        }
        if (oneIn(50)) {
            long[] l = {random.nextLong(), random.nextLong(), random.nextLong()};
            same("feed of anything", x.feed(l[0], l[1], l[2]), model.feed(l));
        }
        same("count(7)", x.count(7), model.count(7));
        same("custom of " + new String(bytes, StandardCharsets.ISO_8859_1), x.custom(), model.custom());
    }

    private void lookAround() {
        for (int what = -1; what <= 8; what++) {
            same("count(" + what + ")", x.count(what), model.count(what));
        }
        for (int h = -1; h <= 4; h++) {
            for (int what = -1; what <= 3; what++) {
                same("hill(" + h + ", " + what + ")", x.hill(h, what), model.hill(h, what));
            }
        }
        for (int p = -1; p <= 6; p++) {
            int person = p;
            same("purse(" + p + ")", Check.answer(() -> x.purse(person)), Check.answer(() -> model.purse(person)));
            same("has(" + p + ")", Check.answer(() -> x.has(person)), Check.answer(() -> model.has(person)));
        }
        for (int l = -1; l <= 10; l++) {
            for (int what = -1; what <= 8; what++) {
                same("loan(" + l + ", " + what + ")", x.loan(l, what), model.loan(l, what));
            }
        }
        same("ruined()", x.ruined(), model.ruined());
    }

    private void payEarly(int loan) {
        same("early(" + loan + ")", x.early(loan) ? 1 : 0, model.early(loan) ? 1 : 0);
    }

    /** Coins that are paid early to a ruined debtor may go on to the lender: one call alone seldom gets there. */
    private void payAround(int first) {
        for (int i = 0; i < 12 && !oneIn(10); i++) {
            payEarly((first + i) % 12);
            same("ruined()", x.ruined(), model.ruined());
        }
    }

    /** So that there is something on the tape when days pass and marks are gone back to; the next text stays good. */
    private void feedBlanks() {
        long[] l = {' ', 0, '\n'};
        same("feed of blanks", x.feed(l[0], l[1], l[2]), model.feed(l));
    }

    private void change() {
        int loan = below(12) - 1;
        int mark = below(6) - 1;
        int wet = oneIn(20) ? below(20) - 2 : below(1 << model.count(0));
        boolean back = oneIn(2);
        switch (below(13)) {
            case 0, 1 -> payEarly(loan);
            case 12 -> feedBlanks();
            case 2 -> payAround(loan);
            case 3 -> same("undo()", x.undo() ? 1 : 0, model.undo() ? 1 : 0);
            case 4 -> same("mark(" + mark + ", " + back + ")", x.mark(mark, back) ? 1 : 0, model.mark(mark, back) ? 1 : 0);
            default -> same("day(" + wet + ")", x.day(wet), model.day(wet));
        }
    }

    private void lookAhead() {
        int loan = oneIn(20) ? below(12) - 1 : below(Math.max(1, model.count(2)));
        int h = Math.max(1, model.count(0));
        // The plain model is slow: seldom as far ahead as can be.
        int days = oneIn(20) ? below(15) - 1 : 1 + below(Math.max(1, (oneIn(25) ? 12 : 6) / h));
        int person = oneIn(20) ? below(8) - 1 : below(Math.max(1, model.count(1)));
        int what = below(oneIn(10) ? 4 : 2) - (oneIn(20) ? 1 : 0);
        int coins = oneIn(2) && person >= 0 && person < model.count(1) ? model.purse(person)
                : oneIn(9) ? below(2) * 100001 - 1 : below(40);
        int i = below(oneIn(3) ? 100 : 4) - (oneIn(9) ? 1 : 0);
        String of = "(" + loan + ", " + days + ", " + what + ")";
        switch (below(5)) {
            case 0 -> same("worth" + of, x.worth(loan, days, what), model.worth(loan, days, what));
            case 1 -> same("chance" + of, x.chance(loan, days, what), model.chance(loan, days, what));
            case 2 -> same("better" + of, x.better(loan, days), model.better(loan, days));
            case 3 -> same("fits " + days + " " + person + " " + coins, x.fits(days, person, coins),
                    model.fits(days, person, coins));
            default -> same("fit " + days + " " + person + " " + coins + " " + i, x.fit(days, person, coins, i),
                    model.fit(days, person, coins, i));
        }
    }

    private void gamble() {
        int bets = oneIn(9) ? below(600) - 20 : below(1 << model.count(3));
        int wet = oneIn(9) ? below(20) - 2 : below(1 << model.count(0));
        int seed = oneIn(9) ? below(2) * 10001 - 1 : below(10000);
        int years = oneIn(9) ? below(2) * 21 : 1 + below(oneIn(9) ? 20 : 2);
        int what = below(6) - 1;
        same("gain(" + bets + ", " + wet + ")", Check.answer(() -> x.gain(bets, wet)), Check.answer(() -> model.gain(bets, wet)));
        same("sure(" + what + ")", x.sure(what), model.sure(what));
        same("lots(" + seed + ", " + years + ", " + what + ")", x.lots(seed, years, what), model.lots(seed, years, what));
    }

    private void play() {
        for (int custom = 0; custom < 4; custom++) {
            tell();
            lookAround();
            int steps = oneIn(5) ? 45 : 12;
            for (int i = 0; i < steps; i++) {
                change();
                lookAround();
                if (oneIn(2)) {
                    lookAhead();
                }
            }
            gamble();
            lookAround();
        }
    }

    public static void main(String[] args) {
        int runs = args.length > 0 ? Integer.parseInt(args[0]) : 1500;
        int first = args.length > 1 ? Integer.parseInt(args[1]) : 0;
        for (int run = first; run < first + runs && CHECK.wrong() < 40; run++) {
            new ModelTest(run).play();
        }
        CHECK.end();
    }
}
