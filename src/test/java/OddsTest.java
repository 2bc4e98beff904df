/** Promises 26 to 29: odds. */
public final class OddsTest {
    private static final int BAD = EnvelopeCard.BAD, STATE = EnvelopeCard.STATE;

    public static void main(String[] args) {
        Check c = new Check("OddsTest");
        friday(c);
        odds(c);
        ask(c);
        rule(c);
        refusals(c);
        itStays(c);
        c.end();
    }

    private static void friday(Check c) {
        EnvelopeCard sure = Check.office("h111 h222");
        c.odds(sure, "friday(1)", sure.friday(1), 1, 0, 1);
        c.odds(sure, "friday(2)", sure.friday(2), 1, 1, 1);
        EnvelopeCard x = Check.office("p1115");
        c.odds(x, "friday(0)", x.friday(0), 1, 0, 1);
        c.odds(x, "friday(1)", x.friday(1), 1, 5, 12);
        c.odds(x, "friday(2)", x.friday(2), 1, 95, 144);
        long twelve = 8916100448256L;
        long seven = 13841287201L;
        c.odds(x, "friday(12)", x.friday(12), 1, twelve - seven, twelve);
        EnvelopeCard two = Check.office("p1113 p2224");
        c.odds(two, "friday(2)", two.friday(2), 1, 1, 12);
        c.odds(two, "friday(3)", two.friday(3), 1, 29, 144);
        two.go(60, 3);
        two.go(60, 3);
        c.due("BACK", two.where() + two.asked(), 1);
        c.odds(two, "friday(0), BACK", two.friday(0), 1, 1, 1);
        c.odds(two, "friday(5), BACK", two.friday(5), 1, 1, 1);
        EnvelopeCard away = Check.office("h111 a22214");
        c.odds(away, "friday(5)", away.friday(5), 1, 0, 1);
        c.odds(away, "friday(6)", away.friday(6), 1, 1, 1);
        away.go(4, 1);
        c.odds(away, "friday(1) in HOUR 4", away.friday(1), 1, 0, 1);
        c.odds(away, "friday(2) in HOUR 4", away.friday(2), 1, 1, 1);
        EnvelopeCard quick = Check.office("q111 p2226 q333");
        c.odds(quick, "friday(1)", quick.friday(1), 1, 0, 1);
        c.odds(quick, "friday(2)", quick.friday(2), 1, 1, 2);
    }

    private static void odds(Check c) {
        EnvelopeCard x = Check.office("p1113 p2224 h333");
        c.odds(x, "odds(0, 0)", x.odds(0, 0), 1, 1, 1);
        c.odds(x, "odds(1, 0)", x.odds(1, 0), 1, 3, 4);
        c.odds(x, "odds(1, 1)", x.odds(1, 1), 1, 1, 4);
        c.odds(x, "odds(1, 2)", x.odds(1, 2), 1, 0, 1);
        c.odds(x, "odds(2, 1)", x.odds(2, 1), 1, 17, 48);
        c.odds(x, "odds(2, 2)", x.odds(2, 2), 1, 1, 12);
        c.odds(x, "odds(3, 0), BACK or not", x.odds(3, 0), 1, 97, 192);
        x.go(1, 1);
        c.odds(x, "odds(1, 1) from HOUR 1", x.odds(1, 1), 1, 1, 4);
        EnvelopeCard back = Check.office("h111 h222");
        back.begin(1, 0);
        back.go(2, 1);
        c.odds(back, "odds(3, 1), BACK", back.odds(3, 1), 1, 1, 1);
        c.odds(back, "odds(3, 0), BACK", back.odds(3, 0), 1, 0, 1);
        EnvelopeCard stays = Check.office("p1116 a22211");
        c.odds(stays, "odds(1, 1)", stays.odds(1, 1), 1, 0, 1);
        c.odds(stays, "odds(2, 1)", stays.odds(2, 1), 1, 1, 2);
    }

    private static void ask(Check c) {
        EnvelopeCard x = Check.office("p1113 p2224 h333");
        c.both(x, "ask(1, 3, 4)", x.ask(1, 3, 4), 1, 1);
        c.both(x, "ask(1, 76, 99)", x.ask(1, 76, 99), 2, 3);
        c.both(x, "ask(1, 1, 1)", x.ask(1, 1, 1), 2, 3);
        c.both(x, "ask(2, 99, 99)", x.ask(2, 99, 99), 3, 7);
        c.both(x, "ask(2, 0, 7)", x.ask(2, 0, 7), 0, 0);
        EnvelopeCard even = Check.office("h111 p2226 h333");
        even.begin(1, 2);
        c.both(even, "of alike ones the least", even.ask(1, 1, 2), 1, 1);
        c.both(even, "both of these", even.ask(1, 2, 3), 2, 3);
        EnvelopeCard later = Check.office("h111 p2226 h333");
        later.begin(1, 0);
        c.both(later, "1 ahead of 2", later.ask(1, 1, 2), 1, 2);
        later.go(40, 1);
        c.both(later, "BACK at 1", later.ask(0, 1, 1), 1, 2);
    }

    private static void rule(Check c) {
        EnvelopeCard x = Check.office("h111 a22203 h333 h444");
        c.odds(x, "none is BACK: the first", x.rule(0, 2), 0, 0, 1);
        c.odds(x, "all are BACK: the first", x.rule(0, 12), 0, 1, 1);
        EnvelopeCard y = Check.office("h111 a22229 h333 h444 h555");
        y.begin(0, 2);
        c.odds(y, "rule(0, 5)", y.rule(0, 5), 0, 1, 1);
        c.odds(y, "rule(2, 5)", y.rule(2, 5), 1, 1, 1);
        y.go(3, 1);
        c.odds(y, "begun anew", y.rule(2, 5), 1, 1, 1);
        EnvelopeCard far = Check.office("a22229 h111 h333 h444");
        c.odds(far, "rule(2, 4)", far.rule(2, 4), 2, 1, 1);
        EnvelopeCard p = Check.office("p1111");
        c.odds(p, "one twelfth", p.rule(0, 1), 0, 1, 12);
        c.odds(p, "rule(0, 0)", p.rule(0, 0), 0, 0, 1);
        p.go(60, 3);
        c.odds(p, "anew though BACK", p.rule(0, 0), 0, 0, 1);
    }

    private static void refusals(Check c) {
        EnvelopeCard none = new EnvelopeCard();
        c.due("friday(13) without DESKS", none.friday(13), BAD);
        c.due("friday(0) without DESKS", none.friday(0), STATE);
        c.due("odds(0, 0) without DESKS", none.odds(0, 0), BAD);
        c.due("ask(0, 2, 1) without DESKS", none.ask(0, 2, 1), BAD);
        c.due("ask(0, 1, 1) without DESKS", none.ask(0, 1, 1), STATE);
        c.due("rule(0, 0) without DESKS", none.rule(0, 0), BAD);
        EnvelopeCard x = Check.office("h111 p2225");
        x.friday(12);
        c.due("friday(-1)", x.friday(-1), BAD);
        c.due("friday(13)", x.friday(13), BAD);
        c.due("odds(-1, 0)", x.odds(-1, 0), BAD);
        c.due("odds(13, 0)", x.odds(13, 0), BAD);
        c.due("odds(0, 2)", x.odds(0, 2), BAD);
        c.due("odds(0, -1)", x.odds(0, -1), BAD);
        c.due("ask(-1, 1, 1)", x.ask(-1, 1, 1), BAD);
        c.due("ask(13, 1, 1)", x.ask(13, 1, 1), BAD);
        c.due("ask(0, -1, 1)", x.ask(0, -1, 1), BAD);
        c.due("ask(0, 3, 2)", x.ask(0, 3, 2), BAD);
        c.due("ask(0, 0, 0)", x.ask(0, 0, 0), BAD);
        c.due("ask(0, 0, 100)", x.ask(0, 0, 100), BAD);
        c.due("rule(2, 1)", x.rule(2, 1), BAD);
        c.due("rule(-1, 1)", x.rule(-1, 1), BAD);
        c.due("rule(0, -1)", x.rule(0, -1), BAD);
        c.due("rule(0, 13)", x.rule(0, 13), BAD);
        c.due("lower() stays", x.lower() > 1 ? 1 : 0, 1);
    }

    private static void itStays(Check c) {
        EnvelopeCard x = Check.office("p1113 q444 p2224 a33315 h333");
        x.go(2, 2);
        long before = x.digest();
        x.friday(9);
        x.odds(7, 1);
        x.ask(5, 2, 3);
        x.rule(3, 9);
        c.due("digest() stays", x.digest(), before);
    }
}
