/** Promises 17 to 25: rounds. */
public final class RoundTest {
    private static final int NOTHING = 1;
    private static final int NONE = EnvelopeCard.NONE, BAD = EnvelopeCard.BAD, STATE = EnvelopeCard.STATE;
    /** Seeds whose first LOTS are 7, 2, 9 and 0 modulo 12. */
    private static final int LOT_7 = 1, LOT_2 = 2, LOT_9 = 3, LOT_0 = 12;

    public static void main(String[] args) {
        Check c = new Check("RoundTest");
        begin(c);
        goByNumbers(c);
        goByLots(c);
        goLotsOfACall(c);
        goLastHeap(c);
        goAway(c);
        goQuick(c);
        goQuickToAway(c);
        goLimits(c);
        terms(c);
        toldAndCoins(c);
        words(c);
        next(c);
        keepAndOn(c);
        keptEntries(c);
        c.end();
    }

    private static void begin(Check c) {
        EnvelopeCard none = new EnvelopeCard();
        c.due("begin without DESKS", none.begin(0, 0), BAD);
        EnvelopeCard x = Check.office("h123 h234 h345");
        x.law(1);
        x.name(7);
        x.link(1);
        x.go(2, 1);
        c.due("begin(2, 1)", x.begin(2, 1), 3);
        c.due("HOUR", x.count(2), 0);
        c.due("CROSSED", x.count(1), 0);
        c.both(x, "where()", x.where(), 2, 0);
        c.due("the LAW stays", x.law(1), 1);
        c.due("the SUM stays", x.name(7), 7);
        c.due("the LINK stays", x.link(1), 1);
        c.due("begin(3, 0)", x.begin(3, 0), BAD);
        c.due("begin(-1, 0)", x.begin(-1, 0), BAD);
        c.due("begin(0, 3)", x.begin(0, 3), BAD);
        c.due("begin(0, -1)", x.begin(0, -1), BAD);
        c.both(x, "where() stays", x.where(), 2, 0);
    }

    private static void goByNumbers(Check c) {
        EnvelopeCard x = Check.office("h111 h222 h333 h444 h555");
        way(c, x, 2, 0, 3, 4, 0, 1);
        way(c, x, 2, 1, 1, 0, 3, 4);
        way(c, x, 2, 2, 0, 4, 1, 3);
        EnvelopeCard alone = Check.office("h111");
        c.due("go(1, 1)", alone.go(1, 1), 1);
        c.both(alone, "where(), alone", alone.where(), 0, 1);
    }

    /** The DESKS to which it comes, then BACK. */
    private static void way(Check c, EnvelopeCard x, int start, int rule, int... desks) {
        x.begin(start, rule);
        for (int k = 0; k < desks.length; k++) {
            c.due("go", x.go(1, 1), k + 1);
            c.both(x, "where() by RULE " + rule + " in HOUR " + (k + 1), x.where(), desks[k], 0);
        }
        x.go(1, 1);
        c.both(x, "where() by RULE " + rule + " at last", x.where(), start, 1);
    }

    private static void goByLots(Check c) {
        EnvelopeCard x = Check.office("p1117 h222");
        x.go(1, LOT_7);
        c.both(x, "HEAP 7, LOT 7", x.where(), 0, 0);
        c.due("CROSSED though it lies", x.count(1), 1);
        x.go(1, LOT_2);
        c.both(x, "HEAP 7, LOT 2", x.where(), 1, 0);
        c.tells(x, "told(0, 1)", x.told(0, 1), 0);
        x.begin(0, 0);
        x.go(1, LOT_0);
        c.both(x, "HEAP 7, LOT 0", x.where(), 1, 0);
        Check.write(x, 0, "p1119 h222");
        x.office(0);
        x.go(1, LOT_9);
        c.both(x, "HEAP 9, LOT 9", x.where(), 0, 0);
        x.go(1, LOT_7);
        c.both(x, "HEAP 9, LOT 7", x.where(), 1, 0);
    }

    /** By seed 11 the LOTS below 2 modulo 12 are the third and the fifth. */
    private static void goLotsOfACall(Check c) {
        EnvelopeCard x = Check.office("h111 p1112 h222 p1112");
        x.go(3, 11);
        c.both(x, "behind two LOTS", x.where(), 1, 0);
        x.begin(0, 0);
        x.go(4, 11);
        c.both(x, "behind three LOTS", x.where(), 2, 0);
        x.begin(0, 0);
        x.go(6, 11);
        c.both(x, "none was drawn without a HEAP", x.where(), 3, 0);
        c.due("CROSSED", x.count(1), 4);
        x.begin(0, 0);
        x.go(7, 11);
        c.both(x, "behind five LOTS", x.where(), 0, 1);
        x.begin(0, 0);
        x.go(2, 11);
        x.go(1, 11);
        x.go(1, 11);
        c.both(x, "each call has its own LOTS", x.where(), 1, 0);
    }

    private static void goLastHeap(Check c) {
        EnvelopeCard x = Check.office("h111 p2223");
        x.go(2, LOT_7);
        c.both(x, "all CROSSED, not BACK", x.where(), 1, 0);
        c.due("CROSSED", x.count(1), 2);
        x.go(1, LOT_2);
        c.both(x, "BACK by a LOT", x.where(), 0, 1);
        c.due("HOURS go by behind it", x.go(3, 1), 6);
        c.both(x, "BACK still", x.where(), 0, 1);
    }

    private static void goAway(Check c) {
        EnvelopeCard x = Check.office("a11102 h222");
        x.go(3, 1);
        c.due("AWAY: nothing", x.count(1), 0);
        c.both(x, "AWAY: it lies", x.where(), 0, 0);
        x.go(1, 1);
        c.tells(x, "told(0, 1)", x.told(0, 1), 3);
        c.both(x, "passed on", x.where(), 1, 0);
        EnvelopeCard y = Check.office("p1119 a22213 h333 a44424");
        y.go(1, LOT_0);
        c.both(y, "over one AWAY in the HOUR to come", y.where(), 2, 0);
        y.go(1, LOT_0);
        c.both(y, "it stays: all others are AWAY", y.where(), 2, 0);
        y.go(1, LOT_0);
        c.both(y, "it stays still", y.where(), 2, 0);
        y.go(1, LOT_0);
        c.both(y, "one is not AWAY in HOUR 4", y.where(), 1, 0);
        y.go(1, LOT_0);
        c.both(y, "the other is not AWAY in HOUR 5", y.where(), 3, 0);
        y.go(1, LOT_0);
        c.both(y, "BACK", y.where(), 0, 1);
        heapThatCannotPass(c);
    }

    /** No number is drawn in HOUR 0: the only other one is AWAY in the HOUR to come. */
    private static void heapThatCannotPass(Check c) {
        for (int seed = 1; seed <= 60; seed++) {
            EnvelopeCard x = Check.office("p1116 a22211");
            x.go(2, seed);
            long lot = seed * 48271L % 2147483647L;
            c.both(x, "seed " + seed, x.where(), lot % 12 < 6 ? 1 : 0, 0);
        }
    }

    private static void goQuick(Check c) {
        EnvelopeCard x = Check.office("q111 q222 h333 q444");
        x.go(1, 1);
        c.both(x, "three in one HOUR", x.where(), 3, 0);
        c.due("CROSSED", x.count(1), 3);
        x.go(1, 1);
        c.both(x, "BACK by a QUICK one", x.where(), 0, 1);
        c.tells(x, "told(3, 1)", x.told(3, 1), 1);
        EnvelopeCard all = Check.office("q000q000q000q000q000q000q000q000q000");
        all.go(1, 1);
        c.both(all, "nine QUICK ones", all.where(), 0, 1);
        c.due("CROSSED", all.count(1), 9);
        EnvelopeCard heap = Check.office("q111 p2225 h333");
        heap.go(1, LOT_2);
        c.both(heap, "QUICK, then HEAPED, in one HOUR", heap.where(), 2, 0);
        heap.begin(0, 0);
        heap.go(1, LOT_7);
        c.both(heap, "QUICK, then it lies", heap.where(), 1, 0);
        c.due("CROSSED", heap.count(1), 2);
        EnvelopeCard stays = Check.office("q111 a22212 q333");
        stays.go(1, 1);
        c.both(stays, "it stays at a QUICK one", stays.where(), 2, 0);
        stays.go(2, 1);
        c.both(stays, "who has it at once is AWAY still", stays.where(), 1, 0);
        c.due("CROSSED", stays.count(1), 2);
        stays.go(1, 1);
        c.both(stays, "BACK", stays.where(), 0, 1);
        c.tells(stays, "told(1, 1)", stays.told(1, 1), 3);
    }

    private static void goQuickToAway(Check c) {
        EnvelopeCard x = Check.office("q111 a22200 h333");
        x.go(1, 1);
        c.both(x, "AWAY in this HOUR, not in the one to come", x.where(), 1, 0);
        c.due("it lies there", x.count(1), 1);
        x.go(1, 1);
        c.both(x, "then passed on", x.where(), 2, 0);
        c.tells(x, "told(1, 1)", x.told(1, 1), 1);
        EnvelopeCard y = Check.office("q111 a22211 h333");
        y.go(1, 1);
        c.both(y, "AWAY in the HOUR to come", y.where(), 2, 0);
        c.due("CROSSED", y.count(1), 2);
    }

    private static void goLimits(Check c) {
        EnvelopeCard none = new EnvelopeCard();
        c.due("go(61, 1) without DESKS", none.go(61, 1), BAD);
        c.due("go(0, 1) without DESKS", none.go(0, 1), STATE);
        EnvelopeCard x = Check.office("h111 h222");
        c.due("go(-1, 1)", x.go(-1, 1), BAD);
        c.due("go(61, 1)", x.go(61, 1), BAD);
        c.due("go(1, 0)", x.go(1, 0), BAD);
        c.due("go(1, 2147483647)", x.go(1, Integer.MAX_VALUE), BAD);
        c.due("go(0, 2147483646)", x.go(0, Integer.MAX_VALUE - 1), 0);
        for (int k = 1; k <= 16; k++) {
            c.due("go(60, 1)", x.go(60, 1), 60 * k);
        }
        c.due("go(41, 1)", x.go(41, 1), EnvelopeCard.SPENT);
        c.due("HOUR stays", x.count(2), 960);
        c.due("go(40, 1)", x.go(40, 1), 1000);
        c.due("go(1, 1)", x.go(1, 1), EnvelopeCard.SPENT);
        c.due("go(0, 1)", x.go(0, 1), 1000);
        c.due("go(61, 1)", x.go(61, 1), BAD);
    }

    /** What each puts in by the LAW, a SUM, a LINK. */
    private static void terms(Check c) {
        String signs = "h560 h390 e880 h270 h080";
        puts(c, signs, 0, 0, 0, 5, 3, 0, 2, 0);
        puts(c, signs, 1, 0, 0, 3, 3, 0, 1, 0);
        puts(c, signs, 2, 0, 0, 5, 4, 0, 2, 1);
        puts(c, signs, 0, 6, 0, 6, 6, 0, 2, 0);
        puts(c, signs, 0, 7, 0, 7, 3, 0, 2, 0);
        puts(c, signs, 0, 1, 0, 1, 1, 0, 1, 0);
        puts(c, signs, 0, 0, 1, 5, 5, 1, 2, 1);
        puts(c, signs, 0, 10, 1, 10, 10, 1, 2, 1);
        puts(c, "h080 h390 h170 h080", 0, 0, 1, 0, 3, 3, 3);
        puts(c, "e880 e880 h170", 2, 0, 0, 0, 0, 0);
        puts(c, "e880 e880 h570", 2, 0, 1, 1, 1, 3);
    }

    private static void puts(Check c, String signs, int law, int sum, int link, int... due) {
        EnvelopeCard x = Check.office(signs);
        x.law(law);
        x.name(sum);
        x.link(link);
        x.go(12, 1);
        int all = 0;
        for (int i = 0; i < due.length; i++) {
            c.tells(x, signs + " by LAW " + law + ", told(" + i + ", 2)", x.told(i, 2), due[i]);
            all += due[i];
        }
        c.due("coins()", x.coins(), all);
    }

    private static void toldAndCoins(Check c) {
        EnvelopeCard none = new EnvelopeCard();
        c.due("where() without DESKS", none.where(), STATE);
        c.due("told(0, 0) without DESKS", none.told(0, 0), BAD);
        c.both(none, "coins() without DESKS", none.coins(), 0, 0);
        c.both(none, "words() without DESKS", none.words(), NONE, 0);
        EnvelopeCard x = Check.office("h514 e725 c316 h999");
        x.go(3, 1);
        int[][] due = {{1, 0, 5, 4}, {1, 1, 0, 4}, {1, 2, 3, 4}, {0, NONE, NONE, NONE}};
        for (int i = 0; i < due.length; i++) {
            for (int what = 0; what < 4; what++) {
                c.tells(x, "told(" + i + ", " + what + ")", x.told(i, what), due[i][what]);
            }
        }
        c.both(x, "coins()", x.coins(), 8, 2);
        c.due("told(4, 0)", x.told(4, 0), BAD);
        c.due("told(-1, 0)", x.told(-1, 0), BAD);
        c.due("told(0, 4)", x.told(0, 4), BAD);
        c.due("told(0, -1)", x.told(0, -1), BAD);
        x.law(1);
        c.both(x, "what was put in stays", x.coins(), 8, 2);
        x.begin(0, 0);
        c.both(x, "a new ROUND", x.coins(), 0, 0);
        c.tells(x, "told(0, 2)", x.told(0, 2), NONE);
    }

    private static void words(Check c) {
        EnvelopeCard x = Check.office("h007 h003 h003 h007 h007");
        c.both(x, "words(), none", x.words(), NONE, 0);
        int[] word = {7, 3, 3, 3, 7};
        int[] often = {1, 1, 2, 2, 3};
        for (int k = 0; k < word.length; k++) {
            x.go(1, 1);
            c.both(x, "words() in HOUR " + (k + 1), x.words(), word[k], often[k]);
        }
    }

    private static void next(Check c) {
        EnvelopeCard none = new EnvelopeCard();
        c.due("next(0) without DESKS", none.next(0), BAD);
        EnvelopeCard x = Check.office("h111 h222 a33312 h444 h555");
        c.due("next(5)", x.next(5), BAD);
        c.due("next(-1)", x.next(-1), BAD);
        c.both(x, "next(1): AWAY in HOUR 1", x.next(1), 3, 0);
        c.both(x, "next(4): 0 behind the last", x.next(4), 0, 0);
        x.begin(0, 1);
        c.both(x, "next(3) nearest", x.next(3), 4, 0);
        c.both(x, "next(2) of alike ones", x.next(2), 1, 0);
        x.begin(0, 2);
        c.both(x, "next(1) farthest", x.next(1), 4, 0);
        c.both(x, "next(2) of alike ones", x.next(2), 0, 0);
        x.go(2, 1);
        c.due("CROSSED", x.count(1), 2);
        c.both(x, "next(2), some CROSSED", x.next(2), 1, 0);
        EnvelopeCard y = Check.office("h111 a22213");
        c.both(y, "it would stay", y.next(0), NONE, 0);
        c.both(y, "to the one ahead", y.next(1), 0, 0);
        y.go(1, 1);
        c.both(y, "it would be BACK", y.next(1), NONE, 1);
        y.go(2, 1);
        c.both(y, "in HOUR 3 it could go on", y.next(0), 1, 0);
        y.go(3, 1);
        c.due("next(0), BACK", y.next(0), STATE);
        c.due("next(2), BACK", y.next(2), BAD);
    }

    private static void keepAndOn(Check c) {
        EnvelopeCard none = new EnvelopeCard();
        c.due("keep(3) without DESKS", none.keep(3), BAD);
        c.due("keep(0) without DESKS", none.keep(0), STATE);
        c.due("on(3)", none.on(3), BAD);
        c.due("on(-1)", none.on(-1), BAD);
        c.finds(none, "on(0)", none.on(0), NOTHING);
        EnvelopeCard x = Check.office("h516 h427 h338 h249");
        x.begin(2, 2);
        x.law(2);
        x.name(9);
        x.link(1);
        x.go(2, 1);
        c.due("keep(2)", x.keep(2), 2);
        c.due("count(5)", x.count(5), 1);
        long kept = x.digest();
        moveOn(x);
        c.due("on(2)", x.on(2), 2);
        c.due("digest() as it was kept", x.digest(), kept);
        x.row(0, 3);
        x.year(1);
        moveOn(x);
        c.due("keep(0)", x.keep(0), 1);
        c.due("on(2)", x.on(2), 2);
        c.due("ROWS stay", x.count(6), 1);
        c.due("YEARS stay", x.count(4), 1);
        c.due("kept ROUNDS stay", x.count(5), 2);
        c.due("LAW", x.law(2), 2);
        c.due("SUM", x.name(9), 9);
        c.due("LINK", x.link(1), 1);
        c.tells(x, "told(2, 2)", x.told(2, 2), 3);
        c.tells(x, "told(0, 3)", x.told(0, 3), 6);
        c.tells(x, "told(1, 1)", x.told(1, 1), NONE);
        c.both(x, "where()", x.where(), 3, 0);
        c.both(x, "next(3) by RULE 2", x.next(3), 1, 0);
        x.go(2, 1);
        c.both(x, "BACK where it began", x.where(), 2, 1);
        c.due("on(0)", x.on(0), 1);
        c.due("on(2) once more", x.on(2), 2);
        x.go(60, 1);
        c.due("on(2), the kept one goes not on", x.on(2), 2);
        c.due("keep(-1)", x.keep(-1), BAD);
    }

    /** What each put in and wrote is another thing in the ROUND between. */
    private static void keptEntries(Check c) {
        EnvelopeCard x = Check.office("c511 c322 c733");
        x.go(3, 1);
        x.keep(1);
        x.begin(2, 2);
        x.law(1);
        x.go(7, 1);
        c.due("on(1)", x.on(1), 3);
        int[] gifts = {5, 3, 7};
        for (int i = 0; i < 3; i++) {
            c.tells(x, "kept, told(" + i + ", 1)", x.told(i, 1), i);
            c.tells(x, "kept, told(" + i + ", 2)", x.told(i, 2), gifts[i]);
            c.tells(x, "kept, told(" + i + ", 3)", x.told(i, 3), 1);
        }
    }

    private static void moveOn(EnvelopeCard x) {
        x.begin(1, 1);
        x.law(0);
        x.name(0);
        x.link(0);
        x.go(1, 1);
    }
}
