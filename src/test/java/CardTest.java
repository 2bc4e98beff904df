/** Promises 39 to 41: cards. */
public final class CardTest {
    private static final int NOTHING = 1, UNLIKE = 3, SIZE = 5;
    private static final int BAD = EnvelopeCard.BAD, STATE = EnvelopeCard.STATE;

    public static void main(String[] args) {
        Check c = new Check("CardTest");
        fits(c);
        room(c);
        refusals(c);
        starts(c);
        c.end();
    }

    private static void fits(Check c) {
        EnvelopeCard x = new EnvelopeCard();
        Check.fill(x, 0);
        c.both(x, "no names", x.fits(5, 5, 0), 0, 0);
        Check.fill(x, 0, 3, 3, 3, 3);
        c.both(x, "two a line, by a sign between", x.fits(7, 2, 0), 4, 2);
        c.both(x, "one a line", x.fits(6, 2, 0), 2, 2);
        c.both(x, "one line", x.fits(7, 1, 0), 2, 1);
        c.both(x, "all in one line", x.fits(15, 1, 0), 4, 1);
        c.both(x, "one sign less", x.fits(14, 1, 0), 3, 1);
        c.both(x, "none has room", x.fits(2, 20, 0), 0, 0);
        Check.fill(x, 0, 4, 6, 1, 1);
        c.both(x, "till one does not fit", x.fits(5, 20, 0), 1, 1);
        Check.fill(x, 0, 40, 40);
        c.both(x, "the widest", x.fits(40, 20, 0), 2, 2);
        x.row(0, 40);
        for (int i = 0; i < 40; i++) {
            x.lay(0, i, 40);
        }
        c.both(x, "twenty lines", x.fits(40, 20, 0), 20, 20);
    }

    private static void room(Check c) {
        EnvelopeCard x = new EnvelopeCard();
        Check.fill(x, 0);
        c.both(x, "no names", x.room(5, 5, 0), 0, 0);
        Check.fill(x, 0, 5, 5, 2, 2);
        c.both(x, "laid as they stand", x.fits(8, 2, 0), 3, 2);
        c.both(x, "the order being free", x.room(8, 2, 0), 4, 15);
        c.both(x, "the least bits", x.room(5, 2, 0), 3, 13);
        Check.fill(x, 0, 9, 4, 9, 4, 4);
        c.both(x, "wider ones are left out", x.room(9, 2, 0), 3, 11);
        c.both(x, "none has room", x.room(3, 20, 0), 0, 0);
        Check.fill(x, 0, 7, 3, 2, 6, 4, 5, 1, 8);
        c.both(x, "eight names", x.room(9, 5, 0), 8, 255);
        c.both(x, "eight names, four lines", x.room(10, 4, 0), 8, 255);
        c.both(x, "eight names, three lines", x.room(10, 3, 0), 6, 63);
        Check.fill(x, 0, 1, 1, 1, 1, 1, 1, 1, 1);
        c.both(x, "eight in three lines", x.room(5, 3, 0), 8, 255);
        c.both(x, "six in two lines", x.room(5, 2, 0), 6, 63);
    }

    private static void refusals(Check c) {
        EnvelopeCard x = new EnvelopeCard();
        int[][] bad = {{0, 1, 0}, {41, 1, 0}, {1, 0, 0}, {1, 21, 0}, {1, 1, 6}, {1, 1, -1}, {-1, -1, 0}};
        for (int[] b : bad) {
            c.due("fits(" + b[0] + ", " + b[1] + ", " + b[2] + ")", x.fits(b[0], b[1], b[2]), BAD);
            c.due("room(" + b[0] + ", " + b[1] + ", " + b[2] + ")", x.room(b[0], b[1], b[2]), BAD);
        }
        c.finds(x, "fits(1, 1, 0)", x.fits(1, 1, 0), NOTHING);
        c.finds(x, "room(1, 1, 0)", x.room(1, 1, 0), NOTHING);
        x.row(0, 9);
        c.finds(x, "nine names of size 0 in room", x.room(1, 1, 0), SIZE);
        c.finds(x, "size 0 in fits", x.fits(1, 1, 0), UNLIKE);
        Check.fill(x, 0, 1, 0);
        c.finds(x, "size 0 in room", x.room(1, 1, 0), UNLIKE);
        Check.fill(x, 0, 1, 41);
        c.finds(x, "size 41 in room", x.room(1, 1, 0), UNLIKE);
        c.finds(x, "size 41 in fits, where it comes not to it", x.fits(1, 1, 0), UNLIKE);
        Check.fill(x, 0, 1, 40);
        c.both(x, "size 40 in fits", x.fits(40, 1, 0), 1, 1);
        c.both(x, "size 40 in room", x.room(40, 1, 0), 1, 1);
    }

    private static void starts(Check c) {
        EnvelopeCard x = Check.office("h001 c002 h003 e004 h003 c005");
        c.due("starts(0, 7)", x.starts(0, 7), 4);
        c.due("starts(4, 3)", x.starts(4, 3), 2);
        c.due("starts(1, 2)", x.starts(1, 2), 1);
        c.due("starts(0, 1): of alike ones the least", x.starts(0, 1), 4);
        c.due("starts(5, 3)", x.starts(5, 3), 3);
        x.go(3, 1);
        c.both(x, "words()", x.words(), 1, 2);
        c.due("starts(3, 3) behind what stands there", x.starts(3, 3), 4);
        c.due("starts(4, 1)", x.starts(4, 1), 5);
        c.due("starts(4, 9)", x.starts(4, 9), 1);
        c.due("starts(0, 1), CROSSED", x.starts(0, 1), STATE);
        c.due("starts(0, 10), CROSSED", x.starts(0, 10), BAD);
        c.due("starts(3, 10)", x.starts(3, 10), BAD);
        c.due("starts(3, -1)", x.starts(3, -1), BAD);
        c.due("starts(6, 0)", x.starts(6, 0), BAD);
        c.due("starts(-1, 0)", x.starts(-1, 0), BAD);
        c.both(x, "the card stays", x.words(), 1, 2);
        EnvelopeCard none = new EnvelopeCard();
        c.due("starts(0, 0) without DESKS", none.starts(0, 0), BAD);
    }
}
