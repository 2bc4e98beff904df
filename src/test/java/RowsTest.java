/** Promises 1 to 7: a new object, rows. */
public final class RowsTest {
    private static final int NOTHING = 1, BEYOND = 2, NOUGHT = 4, SIZE = 5;

    public static void main(String[] args) {
        Check c = new Check("RowsTest");
        newObject(c);
        row(c);
        layAndAt(c);
        tear(c);
        copy(c);
        mean(c);
        c.end();
    }

    private static void newObject(Check c) {
        EnvelopeCard x = new EnvelopeCard();
        for (int what = 0; what < 8; what++) {
            c.due("count(" + what + ")", x.count(what), 0);
        }
        c.due("asked()", x.asked(), 0);
        c.due("upper()", x.upper(), 0);
        c.due("lower()", x.lower(), 1);
        c.due("finding()", x.finding(), 0);
        c.due("law(1)", x.law(1), 0);
        c.due("name(9)", x.name(9), 0);
        c.due("link(1)", x.link(1), 0);
        c.finds(x, "at(0, 0)", x.at(0, 0), NOTHING);
        c.finds(x, "fault(0)", x.fault(0), NOTHING);
        c.due("where()", x.where(), EnvelopeCard.STATE);
    }

    private static void row(Check c) {
        EnvelopeCard x = new EnvelopeCard();
        c.due("row(0, 0)", x.row(0, 0), 0);
        c.due("row(5, 40)", x.row(5, 40), 40);
        c.due("count(6)", x.count(6), 2);
        c.due("row(6, 1)", x.row(6, 1), EnvelopeCard.BAD);
        c.due("row(-1, 1)", x.row(-1, 1), EnvelopeCard.BAD);
        c.due("row(6, -1)", x.row(6, -1), EnvelopeCard.BAD);
        c.due("row(0, 41)", x.row(0, 41), EnvelopeCard.BAD);
        c.due("finding()", x.finding(), 0);
        c.finds(x, "row(1, -1)", x.row(1, -1), SIZE);
        c.finds(x, "row(5, MIN)", x.row(5, Integer.MIN_VALUE), SIZE);
        c.due("count(6)", x.count(6), 2);
        x.lay(5, 39, 7);
        c.tells(x, "at(5, 39)", x.at(5, 39), 7);
        c.due("row(5, 40)", x.row(5, 40), 40);
        c.tells(x, "at(5, 39), anew", x.at(5, 39), 0);
        x.row(5, 3);
        c.finds(x, "at(5, 3)", x.at(5, 3), BEYOND);
    }

    private static void layAndAt(Check c) {
        EnvelopeCard x = new EnvelopeCard();
        c.due("lay(6, 0, 1)", x.lay(6, 0, 1), EnvelopeCard.BAD);
        c.due("lay(-1, 0, 1)", x.lay(-1, 0, 1), EnvelopeCard.BAD);
        c.finds(x, "lay(0, 9, 1)", x.lay(0, 9, 1), NOTHING);
        x.row(0, 3);
        x.row(1, 3);
        c.finds(x, "lay(0, 3, 1)", x.lay(0, 3, 1), BEYOND);
        c.finds(x, "lay(0, -1, 1)", x.lay(0, -1, 1), BEYOND);
        c.finds(x, "lay(1, -1, 1)", x.lay(1, -1, 1), BEYOND);
        c.tells(x, "lay(0, 0, 5)", x.lay(0, 0, 5), 0);
        c.tells(x, "lay(0, 0, -7)", x.lay(0, 0, -7), 5);
        c.tells(x, "lay(0, 2, MAX)", x.lay(0, 2, Integer.MAX_VALUE), 0);
        c.tells(x, "lay(0, 2, MIN)", x.lay(0, 2, Integer.MIN_VALUE), Integer.MAX_VALUE);
        c.tells(x, "at(0, 0)", x.at(0, 0), -7);
        c.tells(x, "at(0, 1)", x.at(0, 1), 0);
        c.tells(x, "at(0, 2)", x.at(0, 2), Integer.MIN_VALUE);
        c.tells(x, "at(1, 0)", x.at(1, 0), 0);
        c.due("at(6, 0)", x.at(6, 0), EnvelopeCard.BAD);
        c.due("at(-1, 0)", x.at(-1, 0), EnvelopeCard.BAD);
        c.finds(x, "at(2, 0)", x.at(2, 0), NOTHING);
        c.finds(x, "at(0, 3)", x.at(0, 3), BEYOND);
        c.finds(x, "at(0, -1)", x.at(0, -1), BEYOND);
        c.due("asked() stays", x.asked(), 0);
    }

    private static void tear(Check c) {
        EnvelopeCard x = new EnvelopeCard();
        c.due("tear(6)", x.tear(6), EnvelopeCard.BAD);
        c.due("tear(-1)", x.tear(-1), EnvelopeCard.BAD);
        c.finds(x, "tear(0)", x.tear(0), NOTHING);
        Check.fill(x, 0, 4, 5);
        c.due("tear(0)", x.tear(0), 1);
        c.due("count(6)", x.count(6), 0);
        c.finds(x, "tear(0) again", x.tear(0), NOTHING);
        c.finds(x, "at(0, 0)", x.at(0, 0), NOTHING);
        x.row(0, 2);
        c.tells(x, "at(0, 1), made anew", x.at(0, 1), 0);
    }

    private static void copy(Check c) {
        EnvelopeCard x = new EnvelopeCard();
        Check.fill(x, 0, 1, 2, 3, 4, 5);
        Check.fill(x, 1, 6, 7, 8);
        c.due("copy(0, 1, 1, 0, 2)", x.copy(0, 1, 1, 0, 2), 1);
        holds(c, x, 1, 2, 3, 8);
        c.due("copy(0, 0, 0, 1, 4)", x.copy(0, 0, 0, 1, 4), 1);
        holds(c, x, 0, 1, 1, 2, 3, 4);
        c.due("copy(0, 2, 0, 0, 3)", x.copy(0, 2, 0, 0, 3), 1);
        holds(c, x, 0, 2, 3, 4, 3, 4);
        c.due("copy(0, 5, 1, 3, 0)", x.copy(0, 5, 1, 3, 0), 1);
        c.due("copy(6, ..)", x.copy(6, 0, 0, 0, -1), EnvelopeCard.BAD);
        c.due("copy(0, 0, 6, ..)", x.copy(0, 0, 6, 0, 1), EnvelopeCard.BAD);
        c.due("copy(-1, ..)", x.copy(-1, 0, 0, 0, 1), EnvelopeCard.BAD);
        c.finds(x, "copy(2, 0, 3, 0, -1)", x.copy(2, 0, 3, 0, -1), SIZE);
        c.finds(x, "copy(2, 9, 0, 9, 1)", x.copy(2, 9, 0, 9, 1), NOTHING);
        c.finds(x, "copy(0, 9, 2, 9, 1)", x.copy(0, 9, 2, 9, 1), NOTHING);
        c.finds(x, "copy(0, 6, 1, 0, 0)", x.copy(0, 6, 1, 0, 0), BEYOND);
        c.finds(x, "copy(0, 0, 1, 4, 0)", x.copy(0, 0, 1, 4, 0), BEYOND);
        c.finds(x, "copy(0, -1, 1, 0, 0)", x.copy(0, -1, 1, 0, 0), BEYOND);
        c.finds(x, "copy(0, 0, 1, -1, 0)", x.copy(0, 0, 1, -1, 0), BEYOND);
        c.finds(x, "copy(0, 3, 1, 0, 3)", x.copy(0, 3, 1, 0, 3), BEYOND);
        c.finds(x, "copy(0, 0, 1, 1, 3)", x.copy(0, 0, 1, 1, 3), BEYOND);
        c.finds(x, "copy(0, 1, 1, 1, MAX)", x.copy(0, 1, 1, 1, Integer.MAX_VALUE), BEYOND);
        c.finds(x, "copy(0, MAX, 1, 0, 1)", x.copy(0, Integer.MAX_VALUE, 1, 0, 1), BEYOND);
        holds(c, x, 0, 2, 3, 4, 3, 4);
        holds(c, x, 1, 2, 3, 8);
    }

    private static void mean(Check c) {
        EnvelopeCard x = new EnvelopeCard();
        c.due("mean(6)", x.mean(6), EnvelopeCard.BAD);
        c.due("mean(-1)", x.mean(-1), EnvelopeCard.BAD);
        c.finds(x, "mean(0)", x.mean(0), NOTHING);
        x.row(0, 0);
        c.finds(x, "mean(0), empty", x.mean(0), NOUGHT);
        Check.fill(x, 0, 4, 5, 5);
        c.tells(x, "mean of 4 5 5", x.mean(0), 4);
        Check.fill(x, 0, -4, -5, -5);
        c.tells(x, "mean of -4 -5 -5", x.mean(0), -4);
        Check.fill(x, 0, Integer.MAX_VALUE, Integer.MAX_VALUE, Integer.MAX_VALUE);
        c.tells(x, "mean of the greatest", x.mean(0), Integer.MAX_VALUE);
    }

    private static void holds(Check c, EnvelopeCard x, int r, int... numbers) {
        for (int i = 0; i < numbers.length; i++) {
            c.tells(x, "at(" + r + ", " + i + ")", x.at(r, i), numbers[i]);
        }
        c.due("at behind", x.at(r, numbers.length), EnvelopeCard.FINDING);
    }
}
