/** Promises 30 to 36: how much comes in. */
public final class HowMuchTest {
    private static final int NOTHING = 1, UNLIKE = 3, SIZE = 5;
    private static final int BAD = EnvelopeCard.BAD, SPENT = EnvelopeCard.SPENT;

    public static void main(String[] args) {
        Check c = new Check("HowMuchTest");
        order(c);
        orderRefusals(c);
        most(c);
        mostRefusals(c);
        spans(c);
        best(c);
        first(c);
        buy(c);
        fill(c);
        c.end();
    }

    private static void order(Check c) {
        EnvelopeCard x = Check.office("h510 h390 h700 e190 h200");
        Check.fill(x, 0, 2, 4, 1);
        c.due("LAW 0", x.order(0), 12);
        x.law(1);
        c.due("LAW 1", x.order(0), 3);
        x.law(2);
        c.due("LAW 2", x.order(0), 7 + 4 + 4);
        Check.fill(x, 1, 1, 4, 2);
        c.due("LAW 2, another ORDER", x.order(1), 3 + 2 + 4);
        Check.fill(x, 2, 3, 2);
        c.due("an EMPTY one ahead", x.order(2), 3);
        x.name(8);
        c.due("SUM 8", x.order(0), 8 + 8 + 8);
        x.name(0);
        x.law(0);
        x.link(1);
        c.due("LINKED", x.order(0), 7 + 7 + 7);
        c.due("LINKED, an EMPTY one", x.order(2), 1 + 7);
        Check.fill(x, 3);
        c.due("an empty ORDER", x.order(3), 0);
        x.go(1, 1);
        c.due("behind what lies there", x.order(0), 7 + 5 + 5);
        x.link(0);
        x.law(2);
        c.due("by the MEAN of what lies there", x.order(2), 0 + 4);
        c.both(x, "coins() stay", x.coins(), 5, 1);
    }

    private static void orderRefusals(Check c) {
        EnvelopeCard x = Check.office("h510 h390 h700");
        c.due("order(6)", x.order(6), BAD);
        c.due("order(-1)", x.order(-1), BAD);
        c.finds(x, "order(0)", x.order(0), NOTHING);
        Check.fill(x, 0, 0, 3);
        c.finds(x, "a number that is none", x.order(0), UNLIKE);
        Check.fill(x, 0, -1);
        c.finds(x, "a number below 0", x.order(0), UNLIKE);
        Check.fill(x, 0, 1, 2, 1);
        c.finds(x, "twice", x.order(0), UNLIKE);
        Check.fill(x, 0, 2, 1, 0);
        c.due("all of them", x.order(0), 15);
        x.go(1, 1);
        c.finds(x, "CROSSED", x.order(0), UNLIKE);
        x.row(1, 40);
        c.finds(x, "forty places", x.order(1), UNLIKE);
        EnvelopeCard none = new EnvelopeCard();
        none.row(0, 0);
        c.due("an empty ORDER without DESKS", none.order(0), 0);
        none.row(0, 1);
        c.finds(none, "a number without DESKS", none.order(0), UNLIKE);
    }

    private static void most(Check c) {
        EnvelopeCard x = Check.office("h100 h900 h500 e300");
        c.due("LAW 0", x.most(7, 2), 15);
        isRow(c, x, 2, 0, 1, 2);
        x.law(2);
        c.due("LAW 2: the first by numbers", x.most(7, 2), 9 + 5 + 6);
        isRow(c, x, 2, 1, 0, 2);
        c.due("LAW 2, an EMPTY one", x.most(10, 5), 9);
        isRow(c, x, 5, 1, 3);
        x.link(1);
        c.due("LINKED", x.most(7, 2), 27);
        isRow(c, x, 2, 1, 0, 2);
        c.due("an empty set", x.most(0, 2), 0);
        isRow(c, x, 2);
        x.go(2, 1);
        c.due("those not CROSSED", x.most(7, 2), 4);
        isRow(c, x, 2, 2);
        c.due("asked() stays", x.asked(), 2);
    }

    private static void mostRefusals(Check c) {
        EnvelopeCard x = Check.office("h111h222h333h444h555h666h777");
        x.row(0, 3);
        c.due("most(128, 0)", x.most(128, 0), BAD);
        c.due("most(-1, 0)", x.most(-1, 0), BAD);
        c.due("most(MIN, 0)", x.most(Integer.MIN_VALUE, 0), BAD);
        c.due("most(1, 6)", x.most(1, 6), BAD);
        c.due("most(1, -1)", x.most(1, -1), BAD);
        c.due("most(127, 6)", x.most(127, 6), BAD);
        c.due("most(127, 0)", x.most(127, 0), SPENT);
        c.tells(x, "the ROW stays", x.at(0, 2), 0);
        c.due("most(126, 0)", x.most(126, 0), 27);
        c.due("spans(128)", x.spans(128), BAD);
        c.due("spans(-1)", x.spans(-1), BAD);
        c.due("spans(127)", x.spans(127), SPENT);
        x.go(1, 1);
        c.due("most(127, 0), one CROSSED", x.most(127, 0), 27);
        c.both(x, "spans(127), one CROSSED", x.spans(127), 27, 27);
        EnvelopeCard none = new EnvelopeCard();
        c.due("most(0, 0) without DESKS", none.most(0, 0), 0);
        c.due("count(6)", none.count(6), 1);
        c.due("most(1, 0) without DESKS", none.most(1, 0), BAD);
        c.both(none, "spans(0) without DESKS", none.spans(0), 0, 0);
    }

    private static void spans(Check c) {
        EnvelopeCard x = Check.office("h100 h900 h500 e300");
        c.both(x, "LAW 0", x.spans(7), 15, 15);
        x.law(2);
        c.both(x, "LAW 2", x.spans(7), 1 + 3 + 5, 20);
        c.both(x, "LAW 2, an EMPTY one", x.spans(10), 4, 9);
        x.law(0);
        x.link(1);
        c.both(x, "LINKED", x.spans(7), 15, 27);
        x.go(1, 1);
        c.both(x, "LINKED, behind what lies there", x.spans(7), 14, 14);
    }

    private static void best(Check c) {
        EnvelopeCard x = Check.office("h500 h300 h800 e900");
        c.due("best(6)", x.best(6), BAD);
        c.due("best(-1)", x.best(-1), BAD);
        c.finds(x, "best(0)", x.best(0), NOTHING);
        Check.fill(x, 0, 0, 0);
        c.finds(x, "best, twice", x.best(0), UNLIKE);
        Check.fill(x, 0, 0, 1, 2);
        c.both(x, "best of 5 3 8", x.best(0), 16, 24);
        Check.fill(x, 0, 2);
        c.both(x, "best of 8", x.best(0), 16, 16);
        Check.fill(x, 0, 3);
        c.both(x, "best of an EMPTY one: the least", x.best(0), 0, 0);
        Check.fill(x, 0);
        c.both(x, "best of none", x.best(0), 0, 0);
        x.name(6);
        x.link(1);
        Check.fill(x, 0, 3, 1);
        c.both(x, "best, LINKED", x.best(0), 6, 7);
        c.due("the SUM stays", x.name(6), 6);
        x.name(0);
        x.link(0);
        x.law(2);
        Check.fill(x, 0, 2, 1);
        c.both(x, "best by LAW 2", x.best(0), 16, 16 + 16);
    }

    private static void first(Check c) {
        EnvelopeCard x = Check.office("h500 h100 h800 e900");
        c.due("first(4, 0)", x.first(4, 0), BAD);
        c.due("first(-1, 0)", x.first(-1, 0), BAD);
        c.due("first(0, 6)", x.first(0, 6), BAD);
        c.due("first(0, -1)", x.first(0, -1), BAD);
        c.finds(x, "first(0, 0)", x.first(0, 0), NOTHING);
        Check.fill(x, 0, 2, 0);
        c.finds(x, "first(0, 0), in it", x.first(0, 0), UNLIKE);
        c.tells(x, "LAW 0", x.first(1, 0), 0);
        x.law(2);
        c.tells(x, "LAW 2", x.first(1, 0), 4 + 3 - 8 - 6);
        c.tells(x, "an EMPTY one", x.first(3, 0), 4 + 3 - 8 - 6);
        Check.fill(x, 0, 1);
        c.tells(x, "a greater one", x.first(2, 0), 4 - 1);
        x.law(0);
        x.link(1);
        c.tells(x, "LINKED", x.first(2, 0), 7);
        c.tells(x, "LINKED, an EMPTY one", x.first(3, 0), 0);
        x.go(1, 1);
        c.finds(x, "first(0, 0), CROSSED", x.first(0, 0), UNLIKE);
        c.tells(x, "behind what lies there", x.first(2, 0), 0);
        Check.fill(x, 0, 1, 0);
        c.finds(x, "one of the ORDER is CROSSED", x.first(2, 0), UNLIKE);
        Check.fill(x, 0, 4);
        c.finds(x, "one of the ORDER is none", x.first(2, 0), UNLIKE);
    }

    private static void buy(Check c) {
        EnvelopeCard x = Check.office("h500 h800");
        c.due("buy(6)", x.buy(6), BAD);
        c.due("buy(-1)", x.buy(-1), BAD);
        c.finds(x, "buy(0)", x.buy(0), NOTHING);
        x.row(0, 13);
        x.lay(0, 0, -1);
        c.finds(x, "thirteen", x.buy(0), SIZE);
        Check.fill(x, 0, 3, 1000);
        c.finds(x, "1000", x.buy(0), UNLIKE);
        Check.fill(x, 0, -1);
        c.finds(x, "-1", x.buy(0), UNLIKE);
        Check.fill(x, 0, 3, 4, 0);
        c.both(x, "nothing lies in it", x.buy(0), 0, 0);
        x.go(2, 1);
        Check.fill(x, 0, 4, 5, 6, 7);
        c.both(x, "13 pay 6 and 7", x.buy(0), 13, 12);
        Check.fill(x, 0, 5, 8, 5, 13);
        c.both(x, "of alike ones the least bits", x.buy(0), 13, 3);
        Check.fill(x, 0, 14, 999, 12);
        c.both(x, "only 12", x.buy(0), 12, 4);
        Check.fill(x, 0, 14, 999);
        c.both(x, "none", x.buy(0), 0, 0);
        Check.fill(x, 0, 1, 1, 1, 1, 1, 1, 1, 1, 1, 1, 1, 1);
        c.both(x, "all twelve", x.buy(0), 12, 4095);
        Check.fill(x, 0);
        c.both(x, "no gifts", x.buy(0), 0, 0);
        Check.fill(x, 0, 0, 13, 0);
        c.both(x, "one for nothing", x.buy(0), 13, 2);
    }

    private static void fill(Check c) {
        EnvelopeCard x = Check.office("h500 h800 e700 h300");
        c.due("fill(-1)", x.fill(-1), BAD);
        c.due("fill(1000)", x.fill(1000), BAD);
        c.due("fill(999)", x.fill(999), 983);
        c.due("fill(16)", x.fill(16), 0);
        c.due("fill(17)", x.fill(17), 1);
        c.due("fill(0)", x.fill(0), 0);
        x.law(2);
        c.due("by LAW 2", x.fill(100), 100 - 5 - 6 - 0 - 3);
        x.link(1);
        c.due("LINKED", x.fill(100), 100 - 5 - 6 - 1 - 3);
        x.begin(3, 0);
        x.go(1, 1);
        c.due("one is CROSSED", x.fill(100), 100 - 3 - 4 - 5 - 1);
        x.go(3, 1);
        c.due("BACK", x.fill(100), 100 - x.coins());
        EnvelopeCard none = new EnvelopeCard();
        c.due("fill(40) without DESKS", none.fill(40), 40);
    }

    private static void isRow(Check c, EnvelopeCard x, int r, int... numbers) {
        int asked = x.asked();
        for (int i = 0; i < numbers.length; i++) {
            c.tells(x, "at(" + r + ", " + i + ")", x.at(r, i), numbers[i]);
        }
        c.due("at behind", x.at(r, numbers.length), EnvelopeCard.FINDING);
        c.due("asked() was told", asked == x.asked() || numbers.length > 0 ? 1 : 0, 1);
    }
}
