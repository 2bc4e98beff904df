/** Promises 37 and 38: who gave nothing, by the sum alone. */
public final class NothingTest {
    private static final int BAD = EnvelopeCard.BAD, STATE = EnvelopeCard.STATE;

    public static void main(String[] args) {
        Check c = new Check("NothingTest");
        nothing(c);
        termsDoNotMatter(c);
        gaveNone(c);
        c.end();
    }

    private static void nothing(Check c) {
        EnvelopeCard x = Check.office("h300 h500 e200 h000 h900");
        c.due("nothing(-1)", x.nothing(-1), BAD);
        c.due("nothing(100)", x.nothing(100), BAD);
        c.both(x, "none CROSSED, 0", x.nothing(0), 1, 0);
        c.both(x, "none CROSSED, 1", x.nothing(1), 0, 0);
        x.go(3, 1);
        c.both(x, "0: all gave nothing", x.nothing(0), 1, 7);
        c.both(x, "5: one of two ways", x.nothing(5), 2, 0);
        c.both(x, "3: one way", x.nothing(3), 1, 6);
        c.both(x, "2: an EMPTY one", x.nothing(2), 1, 3);
        c.both(x, "8", x.nothing(8), 1, 4);
        c.both(x, "10: none gave nothing", x.nothing(10), 1, 0);
        c.both(x, "1: no way", x.nothing(1), 0, 0);
        c.both(x, "99: no way", x.nothing(99), 0, 0);
        x.go(1, 1);
        c.both(x, "3, with a TIE of 0: it, or nothing", x.nothing(3), 2, 6);
        x.go(1, 1);
        c.both(x, "9", x.nothing(9), 2, 7);
        EnvelopeCard none = new EnvelopeCard();
        c.both(none, "nothing(0) without DESKS", none.nothing(0), 1, 0);
        EnvelopeCard nine = Check.office("h900h900h900h900h900h900h900h900h900");
        nine.go(9, 1);
        c.both(nine, "81 of nine", nine.nothing(81), 1, 0);
        c.both(nine, "36 of nine", nine.nothing(36), 126, 0);
    }

    private static void termsDoNotMatter(Check c) {
        EnvelopeCard x = Check.office("h310 h520 e230");
        x.law(1);
        x.name(7);
        x.link(1);
        x.go(3, 1);
        c.both(x, "by LAW 0, whatever was put in", x.nothing(5), 2, 0);
        c.both(x, "by LAW 0", x.nothing(10), 1, 0);
    }

    private static void gaveNone(Check c) {
        EnvelopeCard x = Check.office("h300 h500 e200 h100 h900");
        c.due("gaveNone(0, 5), not CROSSED", x.gaveNone(0, 5), STATE);
        x.go(4, 1);
        c.odds(x, "gaveNone(0, 5)", x.gaveNone(0, 5), 1, 1, 2);
        c.odds(x, "gaveNone(3, 5)", x.gaveNone(3, 5), 2, 1, 1);
        c.odds(x, "gaveNone(0, 6)", x.gaveNone(0, 6), 1, 1, 2);
        c.odds(x, "gaveNone(3, 6)", x.gaveNone(3, 6), 0, 0, 1);
        c.odds(x, "gaveNone(2, 3)", x.gaveNone(2, 3), 1, 1, 2);
        c.due("gaveNone(5, 5)", x.gaveNone(5, 5), BAD);
        c.due("gaveNone(-1, 5)", x.gaveNone(-1, 5), BAD);
        c.due("gaveNone(0, -1)", x.gaveNone(0, -1), BAD);
        c.due("gaveNone(0, 100)", x.gaveNone(0, 100), BAD);
        c.due("gaveNone(4, 100)", x.gaveNone(4, 100), BAD);
        c.due("gaveNone(4, 99), not CROSSED", x.gaveNone(4, 99), STATE);
        c.finds(x, "gaveNone(0, 99)", x.gaveNone(0, 99), 4);
        c.due("upper() stays", x.upper(), 1);
        c.due("lower() stays", x.lower(), 2);
        EnvelopeCard three = Check.office("h100 h100 h100");
        three.go(3, 1);
        c.odds(three, "two of three ways", three.gaveNone(1, 1), 2, 2, 3);
        EnvelopeCard none = new EnvelopeCard();
        c.due("gaveNone(0, 0) without DESKS", none.gaveNone(0, 0), BAD);
    }
}
