import java.util.ArrayList;
import java.util.List;

/** Promises 46 to 52: what is told. */
public final class TellingTest {
    private static final int BAD = EnvelopeCard.BAD;

    public static void main(String[] args) {
        Check c = new Check("TellingTest");
        asked(c);
        fractions(c);
        count(c);
        findings(c);
        digestOfNone(c);
        digestOfAll(c);
        digestOfBack(c);
        c.end();
    }

    private static void asked(Check c) {
        EnvelopeCard x = Check.office("h514 c325 e736");
        x.go(2, 1);
        x.coins();
        c.due("asked() by coins()", x.asked(), 2);
        x.row(0, 3);
        x.law(0);
        x.fault(3);
        x.mark(1, 4);
        x.begin(7, 0);
        x.told(3, 0);
        x.at(0, 9);
        x.at(5, 0);
        x.fill(9);
        x.friday(2);
        x.count(0);
        x.finding();
        x.digest();
        c.due("asked() by others, and refused ones, stays", x.asked(), 2);
        x.at(0, 0);
        c.due("asked() by at()", x.asked(), 0);
        x.coins();
        x.office(3);
        c.due("asked() stays by office()", x.asked(), 2);
        x.words();
        c.due("asked() by words(), NONE", x.asked(), 0);
        x.tear(0);
        x.copy(0, 0, 0, 0, 0);
        x.keep(0);
        x.lay(5, 0, 7);
        c.due("asked() stays", x.asked(), 0);
    }

    private static void fractions(Check c) {
        EnvelopeCard x = Check.office("p1118 h222");
        c.due("lower() before", x.lower(), 1);
        c.due("upper() before", x.upper(), 0);
        x.odds(1, 1);
        c.due("upper()", x.upper(), 2);
        c.due("lower()", x.lower(), 3);
        x.where();
        x.ask(1, 1, 2);
        x.friday(99);
        c.due("upper() stays", x.upper(), 2);
        c.due("lower() stays", x.lower(), 3);
        x.rule(0, 2);
        c.due("upper() by rule()", x.upper(), 2);
        x.friday(1);
        c.due("upper() of nought", x.upper(), 0);
        c.due("lower() of nought", x.lower(), 1);
        x.go(1, 1);
        x.gaveNone(0, 1);
        c.due("lower() by gaveNone()", x.lower(), 1);
    }

    private static void count(Check c) {
        EnvelopeCard x = Check.office("h123 c123 e123 q123 c123");
        x.go(2, 1);
        x.year(0);
        x.year(1);
        x.year(1);
        x.year(1);
        x.keep(0);
        x.keep(2);
        x.keep(2);
        x.row(0, 0);
        x.row(3, 5);
        x.row(4, 5);
        x.row(4, 6);
        x.tear(3);
        x.text(1, 0);
        int[] due = {5, 2, 2, 3, 4, 2, 2, 2};
        for (int what = 0; what < 8; what++) {
            c.due("count(" + what + ")", x.count(what), due[what]);
        }
        c.due("count(8)", x.count(8), BAD);
        c.due("count(-1)", x.count(-1), BAD);
    }

    private static void findings(Check c) {
        EnvelopeCard x = new EnvelopeCard();
        c.due("findings(0)", x.findings(0), BAD);
        c.due("findings(6)", x.findings(6), BAD);
        c.due("findings(-1)", x.findings(-1), BAD);
        c.due("finding() before", x.finding(), 0);
        x.at(0, 0);
        x.at(1, 0);
        x.row(0, -1);
        c.due("finding()", x.finding(), 5);
        x.row(0, 0);
        x.at(0, 0);
        x.mean(0);
        x.mean(9);
        x.row(0, 1);
        c.due("finding() stays", x.finding(), 4);
        x.order(0);
        c.due("finding()", x.finding(), 3);
        int[] due = {2, 1, 1, 1, 1};
        for (int f = 1; f <= 5; f++) {
            c.due("findings(" + f + ")", x.findings(f), due[f - 1]);
        }
        Check.write(x, 0, "h123");
        x.office(0);
        c.due("findings(1) stays by office()", x.findings(1), 2);
    }

    private static void digestOfNone(Check c) {
        List<Integer> told = new ArrayList<>();
        tell(told, 0, 0, 0, 0, 0, 0, 0, 0);
        tell(told, 0, 0, 0, 0, 0, 0, 0);
        tell(told, -1, -1, -1);
        tell(told, -1, -1, -1, -1, -1, -1);
        tell(told, -1, -1, -1, -1);
        c.due("digest() of a new object", new EnvelopeCard().digest(), mixed(told));
        EnvelopeCard x = new EnvelopeCard();
        x.law(2);
        x.name(33);
        x.link(1);
        told.set(8, 2);
        told.set(9, 33);
        told.set(10, 1);
        c.due("digest() with terms", x.digest(), mixed(told));
    }

    private static void digestOfAll(Check c) {
        EnvelopeCard x = new EnvelopeCard();
        Check.write(x, 1, "h514 p2361 a12303");
        x.office(1);
        x.year(1);
        x.year(2);
        x.law(1);
        x.name(20);
        x.link(1);
        x.begin(1, 2);
        x.go(1, 1);
        x.keep(1);
        x.go(3, 1);
        Check.fill(x, 4, -3, 70000);
        x.text(2, 1);
        x.put(2, 0, 200);
        x.coins();
        List<Integer> told = new ArrayList<>();
        tell(told, 3, 1, 4, 0, 2, 1, 1, 2);
        tell(told, 1, 20, 1, 1, 2, 1, 0);
        tell(told, 0, 5, 1, 4, -9, -9, 0, -9, -9, -9, -10);
        tell(told, 2, 2, 3, 6, 1, -9, 1, 0, 0, 6, 4);
        tell(told, 3, 1, 2, 3, 0, 3, 0, -9, -9, -9, 6);
        tell(told, 1, 2);
        tell(told, -1, 1, -1);
        tell(told, -1, -1, -1, -1, 2, -3, 70000, -1);
        tell(told, -1, 17);
        for (char sign : "h514 p2361 a12303".toCharArray()) {
            tell(told, sign);
        }
        tell(told, 1, -56, -1);
        c.due("digest() of all", x.digest(), mixed(told));
        c.due("asked() stays", x.asked(), 0);
    }

    private static void digestOfBack(Check c) {
        EnvelopeCard x = Check.office("h514");
        x.go(2, 1);
        x.tear(0);
        List<Integer> told = new ArrayList<>();
        tell(told, 1, 1, 2, 0, 0, 0, 0, 1);
        tell(told, 0, 0, 0, 0, 0, 0, 1);
        tell(told, 0, 5, 1, 4, -9, -9, 1, 0, 5, 4, 0);
        tell(told, -1, -1, -1);
        tell(told, -1, -1, -1, -1, -1, -1);
        tell(told, -1, -1, -1, 4, 'h', '5', '1', '4');
        c.due("digest(), BACK", x.digest(), mixed(told));
    }

    private static void tell(List<Integer> told, int... more) {
        for (int v : more) {
            told.add(v);
        }
    }

    private static long mixed(List<Integer> told) {
        long h = 17;
        for (int v : told) {
            h = 31 * h + v;
        }
        return h;
    }
}
