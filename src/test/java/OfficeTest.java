/** Promises 8 to 16: texts, offices, marks of kinds, terms. */
public final class OfficeTest {
    private static final int NOTHING = 1, BEYOND = 2, UNLIKE = 3, SIZE = 5;
    private static final int NONE = EnvelopeCard.NONE, BAD = EnvelopeCard.BAD;

    public static void main(String[] args) {
        Check c = new Check("OfficeTest");
        text(c);
        put(c);
        fault(c);
        office(c);
        desk(c);
        markSides(c);
        markHeapAndAway(c);
        markWords(c);
        markEmpty(c);
        terms(c);
        c.end();
    }

    private static void text(Check c) {
        EnvelopeCard x = new EnvelopeCard();
        c.due("text(0, 0)", x.text(0, 0), 0);
        c.due("text(3, 100)", x.text(3, 100), 100);
        c.due("count(7)", x.count(7), 2);
        c.due("text(4, 1)", x.text(4, 1), BAD);
        c.due("text(-1, 1)", x.text(-1, 1), BAD);
        c.due("text(4, -1)", x.text(4, -1), BAD);
        c.due("text(1, 101)", x.text(1, 101), BAD);
        c.finds(x, "text(1, -1)", x.text(1, -1), SIZE);
        c.due("count(7)", x.count(7), 2);
        c.due("put(3, 99, 65)", x.put(3, 99, 65), 1032);
        x.text(3, 100);
        c.due("put(3, 99, 65), anew", x.put(3, 99, 65), 1032);
    }

    private static void put(Check c) {
        EnvelopeCard x = new EnvelopeCard();
        c.due("put(4, 0, 1)", x.put(4, 0, 1), BAD);
        c.due("put(-1, 0, 1)", x.put(-1, 0, 1), BAD);
        c.finds(x, "put(0, 9, 1)", x.put(0, 9, 1), NOTHING);
        x.text(0, 2);
        c.finds(x, "put(0, 2, 1)", x.put(0, 2, 1), BEYOND);
        c.finds(x, "put(0, -1, 1)", x.put(0, -1, 1), BEYOND);
        c.due("put(0, 1, 300)", x.put(0, 1, 300), 1032);
        c.due("put(0, 1, 200)", x.put(0, 1, 200), 1044);
        c.due("put(0, 1, -128)", x.put(0, 1, -128), 944);
        c.due("put(0, 1, 127)", x.put(0, 1, 127), 872);
        c.due("put(0, 1, 0)", x.put(0, 1, 0), 1127);
        c.due("put(0, 0, 0)", x.put(0, 0, 0), 1032);
        c.due("asked() stays", x.asked(), 0);
    }

    private static void fault(Check c) {
        EnvelopeCard x = new EnvelopeCard();
        c.due("fault(4)", x.fault(4), BAD);
        c.due("fault(-1)", x.fault(-1), BAD);
        c.finds(x, "fault(0)", x.fault(0), NOTHING);
        faultOf(c, "", NONE);
        faultOf(c, "   ", NONE);
        faultOf(c, "h123", NONE);
        faultOf(c, "  h123q456  p7891   ", NONE);
        faultOf(c, "a12300a12399a12357c000e999", NONE);
        faultOf(c, "h000h000h000h000h000h000h000h000h000  ", NONE);
        faultOf(c, "h000h000h000h000h000h000h000h000h000 h000", 37);
        faultOf(c, "h000h000h000h000h000h000h000h000h000x", 36);
        faultOf(c, "x123", 0);
        faultOf(c, " H123", 1);
        faultOf(c, "h1 23", 2);
        faultOf(c, "hx23", 1);
        faultOf(c, "h12/", 3);
        faultOf(c, "h12:", 3);
        faultOf(c, "h1234", 4);
        faultOf(c, "h", 1);
        faultOf(c, "h12", 3);
        faultOf(c, " h123 q1", 8);
        faultOf(c, "p1230", 4);
        faultOf(c, "p1239", NONE);
        faultOf(c, "p123 1", 4);
        faultOf(c, "p123", 4);
        faultOf(c, "a12354", 5);
        faultOf(c, "a12355", NONE);
        faultOf(c, "a1235", 5);
        faultOf(c, "a123", 4);
        x.text(0, 4);
        x.put(0, 2, -24);
        c.due("fault by a byte below 0", x.fault(0), 2);
    }

    private static void faultOf(Check c, String signs, int due) {
        EnvelopeCard x = new EnvelopeCard();
        Check.write(x, 2, signs);
        c.due("fault of '" + signs + "'", x.fault(2), due);
        c.due("office by '" + signs + "'", x.office(2) == EnvelopeCard.STATE ? 1 : 0, due == NONE ? 0 : 1);
    }

    private static void office(Check c) {
        EnvelopeCard x = Check.office("h123 c456");
        c.due("office(4)", x.office(4), BAD);
        c.due("office(-1)", x.office(-1), BAD);
        c.finds(x, "office(0)", x.office(0), NOTHING);
        x.law(2);
        x.name(30);
        x.link(1);
        x.begin(1, 2);
        x.go(1, 1);
        x.year(0);
        x.keep(1);
        Check.write(x, 0, "h12");
        c.due("office by a FAULT", x.office(0), EnvelopeCard.STATE);
        c.due("DESKS stay", x.count(0), 2);
        c.due("YEARS stay", x.count(4), 1);
        c.due("kept ROUNDS stay", x.count(5), 1);
        c.due("HOUR stays", x.count(2), 1);
        Check.write(x, 0, "h521 q342 p7336");
        c.due("office anew", x.office(0), 3);
        c.due("count(0)", x.count(0), 3);
        c.due("count(1)", x.count(1), 0);
        c.due("count(2)", x.count(2), 0);
        c.due("count(4)", x.count(4), 0);
        c.due("count(5)", x.count(5), 0);
        c.due("law(0)", x.law(0), 0);
        c.due("name(0)", x.name(0), 0);
        c.due("link(0)", x.link(0), 0);
        c.both(x, "where()", x.where(), 0, 0);
        c.both(x, "next(0) by RULE 0", x.next(0), 1, 0);
        c.finds(x, "on(1)", x.on(1), NOTHING);
        Check.write(x, 1, "  ");
        c.due("office without DESKS", x.office(1), 0);
        c.due("where()", x.where(), EnvelopeCard.STATE);
        c.due("desk(0, 0)", x.desk(0, 0), BAD);
    }

    private static void desk(Check c) {
        EnvelopeCard x = Check.office("h123q456p7895a01237c987e654");
        int[][] due = {{0, 1, 2, 3, NONE, NONE}, {1, 4, 5, 6, NONE, NONE}, {2, 7, 8, 9, 5, NONE},
            {3, 0, 1, 2, 3, 7}, {4, 9, 8, 7, NONE, NONE}, {5, 6, 5, 4, NONE, NONE}};
        for (int i = 0; i < 6; i++) {
            for (int what = 0; what < 6; what++) {
                c.tells(x, "desk(" + i + ", " + what + ")", x.desk(i, what), due[i][what]);
            }
        }
        c.due("desk(6, 0)", x.desk(6, 0), BAD);
        c.due("desk(-1, 0)", x.desk(-1, 0), BAD);
        c.due("desk(0, 6)", x.desk(0, 6), BAD);
        c.due("desk(0, -1)", x.desk(0, -1), BAD);
        c.due("asked() stays", x.asked(), NONE);
        Check.write(x, 0, "h123h123h123h123");
        x.office(0);
        c.tells(x, "no HEAP is left over", x.desk(2, 4), NONE);
        c.tells(x, "no HOUR is left over", x.desk(3, 5), NONE);
    }

    private static void markSides(Check c) {
        EnvelopeCard x = Check.office("q123 q123 q123");
        c.due("mark(0, 1)", x.mark(0, 1), 1);
        c.due("mark(1, 1)", x.mark(1, 1), 2);
        c.due("mark(2, 1)", x.mark(2, 1), 1);
        c.due("mark(3, 1)", x.mark(3, 1), BAD);
        c.due("mark(-1, 1)", x.mark(-1, 1), BAD);
        c.due("mark(0, 0)", x.mark(0, 0), BAD);
        c.due("mark(0, 6)", x.mark(0, 6), BAD);
        c.due("mark(0, -1)", x.mark(0, -1), BAD);
        EnvelopeCard alone = Check.office("q123");
        c.due("mark of one alone", alone.mark(0, 1), 0);
        EnvelopeCard all = Check.office("h123q123p1231a12300c123e123");
        for (int i = 0; i < 6; i++) {
            for (int kind = 1; kind < 6; kind++) {
                boolean is = i == kind || i == 5 && kind == 4;
                if (is) {
                    c.due("mark is told", all.mark(i, kind) >= 0 ? 1 : 0, 1);
                } else {
                    c.finds(all, "mark(" + i + ", " + kind + ")", all.mark(i, kind), UNLIKE);
                }
            }
        }
        c.due("asked() stays", all.asked(), 0);
    }

    private static void markHeapAndAway(Check c) {
        EnvelopeCard x = Check.office("p1231p1235p1237p1239");
        c.due("HEAP 1", x.mark(0, 2), 12);
        c.due("HEAP 5", x.mark(1, 2), 2);
        c.due("HEAP 7", x.mark(2, 2), 1);
        c.due("HEAP 9", x.mark(3, 2), 1);
        EnvelopeCard y = Check.office("h123a12312");
        int[] away = {0, 1, 1, 0};
        for (int hour = 0; hour < 4; hour++) {
            c.due("AWAY in HOUR " + hour, y.mark(1, 3), away[hour]);
            y.go(1, 1);
        }
    }

    private static void markWords(Check c) {
        EnvelopeCard x = Check.office("h007 h003 c005 e006 h003");
        c.due("nothing stands: COPIED", x.mark(2, 4), 5);
        c.due("nothing stands: EMPTY", x.mark(3, 4), 6);
        x.go(1, 1);
        c.due("one stands", x.mark(2, 4), 7);
        x.go(1, 1);
        c.due("of alike ones the least", x.mark(2, 4), 3);
        x.begin(1, 0);
        x.go(1, 1);
        c.due("a WORD stands once", x.mark(3, 4), 3);
    }

    private static void markEmpty(Check c) {
        EnvelopeCard x = Check.office("h310 e850");
        c.due("TIE", x.mark(1, 5), 8);
        x.law(1);
        c.due("TIE times PAY by 9", x.mark(1, 5), 4);
        x.law(2);
        c.due("nobody put in", x.mark(1, 5), 8);
        x.go(1, 1);
        c.due("half of TIE and MEAN", x.mark(1, 5), 5);
        x.name(10);
        c.due("SUM 10", x.mark(1, 5), 10);
        x.name(11);
        c.due("SUM 11", x.mark(1, 5), 5);
        Check.write(x, 0, "h900 e120");
        x.office(0);
        x.go(1, 1);
        c.due("not LINKED", x.mark(1, 5), 1);
        x.link(1);
        c.due("LINKED", x.mark(1, 5), 9);
        c.due("asked() stays", x.asked(), 0);
    }

    private static void terms(Check c) {
        EnvelopeCard x = new EnvelopeCard();
        c.due("law(2)", x.law(2), 0);
        c.due("law(1)", x.law(1), 2);
        c.due("law(3)", x.law(3), BAD);
        c.due("law(-1)", x.law(-1), BAD);
        c.due("law(0)", x.law(0), 1);
        c.due("name(60)", x.name(60), 0);
        c.due("name(61)", x.name(61), BAD);
        c.due("name(-1)", x.name(-1), BAD);
        c.due("name(0)", x.name(0), 60);
        c.due("link(1)", x.link(1), 0);
        c.due("link(2)", x.link(2), BAD);
        c.due("link(-1)", x.link(-1), BAD);
        c.due("link(1)", x.link(1), 1);
        c.due("link(0)", x.link(0), 1);
    }
}
