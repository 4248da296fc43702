/** All that an object tells of itself, as a text, to compare two objects. */
final class Look {
    private Look() {
    }

    private static void say(StringBuilder to, String name, Check.Call call) {
        long answer = Check.answer(call);
        to.append(name).append('=').append(answer == Check.THROWN ? "thrown" : "" + answer).append(' ');
    }

    /** Counts, weather, purses, loans, who is ruined: asking changes nothing. */
    static String state(RainLoans x) {
        StringBuilder to = new StringBuilder();
        for (int i = 0; i <= 7; i++) {
            int what = i;
            say(to, "count" + i, () -> x.count(what));
        }
        for (int i = 0; i < x.count(0); i++) {
            int hill = i;
            say(to, "wet" + i, () -> x.hill(hill, 2));
        }
        for (int i = 0; i < x.count(1); i++) {
            int person = i;
            say(to, "purse" + i, () -> x.purse(person));
        }
        for (int i = 0; i < x.count(2); i++) {
            for (int what : new int[] {2, 3, 4, 7}) {
                int loan = i;
                say(to, "loan" + i + "," + what, () -> x.loan(loan, what));
            }
        }
        say(to, "ruined", x::ruined);
        return to.toString();
    }

    /** What was told, as far as it can be seen: odds, who lent to whom, bets, and what the terms make of tomorrow. */
    static String custom(RainLoans x) {
        StringBuilder to = new StringBuilder();
        for (int i = 0; i < x.count(0); i++) {
            int hill = i;
            say(to, "dry" + i, () -> x.hill(hill, 0));
            say(to, "wet" + i, () -> x.hill(hill, 1));
        }
        for (int i = 0; i < x.count(2); i++) {
            int loan = i;
            for (int what : new int[] {0, 1, 5, 6}) {
                say(to, "loan" + i + "," + what, () -> x.loan(loan, what));
            }
            say(to, "worth" + i, () -> x.worth(loan, 2, 0));
            say(to, "chance" + i, () -> x.chance(loan, 2, 0));
        }
        for (int b = 0; b < x.count(3); b++) {
            for (int w = 0; w < 1 << x.count(0); w++) {
                int bet = 1 << b;
                int wet = w;
                say(to, "gain" + b + "," + w, () -> x.gain(bet, wet));
            }
        }
        say(to, "lots", () -> x.lots(1, 1, 1));
        return to.toString();
    }

    /** Also what lies on the tape, behind undone days and on the marks: the object is used up then. */
    static String whole(RainLoans x) {
        StringBuilder to = new StringBuilder(state(x)).append('\n').append(custom(x));
        for (int i = 0; i < 40 && x.undo(); i++) {
            to.append("\nundone: ").append(state(x));
        }
        say(to.append("\ntape: "), "fault", x::custom);
        to.append(state(x));
        for (int mark = 0; mark <= 3; mark++) {
            if (x.mark(mark, true)) {
                to.append("\nmark ").append(mark).append(": ").append(state(x)).append(custom(x));
            }
        }
        return to.toString();
    }
}
