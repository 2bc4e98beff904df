/** Promises 42 to 45: years. */
public final class YearsTest {
    private static final int NOTHING = 1, UNLIKE = 3, SIZE = 5;
    private static final int BAD = EnvelopeCard.BAD, STATE = EnvelopeCard.STATE;

    public static void main(String[] args) {
        Check c = new Check("YearsTest");
        year(c);
        yearsByTerms(c);
        fortyYears(c);
        forget(c);
        even(c);
        evenRefusals(c);
        c.end();
    }

    private static void year(Check c) {
        EnvelopeCard x = Check.office("h510 h320 e790 h200");
        balances(c, x, 0, 0, 0, 0);
        c.due("year(3)", x.year(3), 8);
        balances(c, x, -5, -3, 0, 8);
        c.due("year(2)", x.year(2), 10);
        balances(c, x, -10, -6, 10, 6);
        c.due("count(4)", x.count(4), 2);
        c.due("the ROUND stays", x.count(1) + x.count(2) + x.coins(), 0);
        x.go(2, 1);
        c.due("into an empty ENVELOPE", x.year(0), 5);
        balances(c, x, -5, -9, 10, 4);
        c.due("year(4)", x.year(4), BAD);
        c.due("year(-1)", x.year(-1), BAD);
        c.due("balance(4)", x.balance(4), BAD);
        c.due("balance(-1)", x.balance(-1), BAD);
        c.due("count(4)", x.count(4), 3);
        EnvelopeCard alone = Check.office("h510");
        c.due("one alone", alone.year(0), 0);
        balances(c, alone, 0);
        EnvelopeCard none = new EnvelopeCard();
        c.due("year(0) without DESKS", none.year(0), BAD);
        c.due("balance(0) without DESKS", none.balance(0), BAD);
    }

    private static void yearsByTerms(Check c) {
        EnvelopeCard x = Check.office("h510 h390 e790 h200");
        x.go(4, 1);
        x.law(2);
        c.due("LAW 2", x.year(3), 5 + 4 + 0);
        x.law(1);
        c.due("LAW 1", x.year(0), 3);
        balances(c, x, -5 + 3, -4 - 3, 0, 9);
        x.law(0);
        x.name(6);
        x.link(1);
        c.due("SUM 6, LINKED", x.year(0), 6 + 1 + 2);
        balances(c, x, -2 + 9, -7 - 6, -1, 9 - 2);
        x.law(2);
        x.name(0);
        x.link(0);
        balances(c, x, 7, -13, -1, 7);
    }

    private static void fortyYears(Check c) {
        EnvelopeCard x = Check.office("h500 h300");
        for (int k = 0; k < 40; k++) {
            c.due("year", x.year(k & 1), k % 2 == 0 ? 3 : 5);
        }
        c.due("year 41", x.year(0), EnvelopeCard.FULL);
        c.due("year of none", x.year(2), BAD);
        c.due("count(4)", x.count(4), 40);
        balances(c, x, 20 * 3 - 20 * 5, 20 * 5 - 20 * 3);
        c.due("forget(39)", x.forget(39), 1);
        c.due("year 40 again", x.year(0), 3);
        c.due("year 41 again", x.year(0), EnvelopeCard.FULL);
    }

    private static void forget(Check c) {
        EnvelopeCard x = Check.office("h500 h300 h100");
        c.due("forget(0), none", x.forget(0), 0);
        c.due("forget(1), none", x.forget(1), BAD);
        x.year(0);
        x.year(1);
        x.year(2);
        c.due("forget(4)", x.forget(4), BAD);
        c.due("forget(-1)", x.forget(-1), BAD);
        c.due("forget(3)", x.forget(3), 0);
        balances(c, x, 4 - 5 - 5, -3 + 6 - 3, -1 - 1 + 8);
        c.due("forget(1)", x.forget(1), 2);
        c.due("count(4)", x.count(4), 1);
        balances(c, x, 4, -3, -1);
        c.due("a YEAR more", x.year(2), 8);
        balances(c, x, -1, -6, 7);
        c.due("forget(0)", x.forget(0), 2);
        balances(c, x, 0, 0, 0);
        EnvelopeCard none = new EnvelopeCard();
        c.due("forget(0) without DESKS", none.forget(0), 0);
    }

    private static void even(Check c) {
        EnvelopeCard x = Check.office("h910 h190 h530");
        Check.fill(x, 0, 0);
        c.both(x, "even of 0", x.even(0), 1, 3);
        Check.fill(x, 0, 1);
        c.both(x, "even of 1", x.even(0), 1, 3);
        Check.fill(x, 0, 0, 1, 2);
        c.both(x, "even of all", x.even(0), 1, 0);
        x.law(2);
        x.name(2);
        c.both(x, "even by SUM 2", x.even(0), 0, 0);
        c.due("the LAW stays", x.law(2), 2);
        Check.fill(x, 0);
        c.both(x, "even of none: the first", x.even(0), 0, 0);
        x.name(0);
        x.year(1);
        x.go(2, 1);
        Check.fill(x, 0, 0);
        c.both(x, "from nothing", x.even(0), 1, 3);
        c.due("YEARS stay", x.count(4), 1);
        x.row(0, 20);
        c.due("twenty YEARS", x.even(0), 1);
        c.due("asked()", x.asked(), 60);
        EnvelopeCard four = Check.office("h199 h999 h199 h999");
        Check.fill(four, 0, 1);
        c.both(four, "LAW 2 is most even", four.even(0), 2, 12);
        EnvelopeCard three = Check.office("h199 h899 h200");
        Check.fill(three, 0, 0, 1, 2);
        c.both(three, "LAWS 0 and 2 alike: the first", three.even(0), 0, 21);
        EnvelopeCard alone = Check.office("h199");
        Check.fill(alone, 0, 0, 0);
        c.both(alone, "one alone", alone.even(0), 0, 0);
    }

    private static void evenRefusals(Check c) {
        EnvelopeCard none = new EnvelopeCard();
        c.due("even(6) without DESKS", none.even(6), BAD);
        c.due("even(0) without DESKS", none.even(0), STATE);
        EnvelopeCard x = Check.office("h910 h190");
        c.due("even(6)", x.even(6), BAD);
        c.due("even(-1)", x.even(-1), BAD);
        c.finds(x, "even(0)", x.even(0), NOTHING);
        x.row(0, 21);
        x.lay(0, 0, 2);
        c.finds(x, "twenty-one", x.even(0), SIZE);
        Check.fill(x, 0, 0, 2);
        c.finds(x, "a number that is none", x.even(0), UNLIKE);
        Check.fill(x, 0, -1);
        c.finds(x, "a number below 0", x.even(0), UNLIKE);
    }

    private static void balances(Check c, EnvelopeCard x, int... due) {
        for (int i = 0; i < due.length; i++) {
            c.tells(x, "balance(" + i + ")", x.balance(i), due[i]);
        }
    }
}
