import java.util.Random;

/** Any numbers in any state: no call throws, and what is refused changes nothing but its FINDING. */
public final class RefusalTest {
    private static final int[] ODD_NUMBERS = {-1, -2, Integer.MIN_VALUE, Integer.MAX_VALUE, 9, 10, 12, 13, 20, 21,
        40, 41, 60, 61, 99, 100, 101, 511, 512, 999, 1000, Integer.MAX_VALUE - 1, 1 << 31, 1 << 16, -1000};
    private static final String[] OFFICES = {"", "h521q342p7336a64412c255e911h836q412", "p9991p1115p2223p3337p4449",
        "h12", "q111q222q333q444q555q666q777q888q999", "a11109a22209", "c111e222c333", "x"};
    private static final int KINDS = 50;
    /** Behind these no step begins: so no object is used for more than 512 calls. */
    private static final int ENOUGH_CALLS = 450;
    private static final int CALLS_TO_JUDGE = 22;

    private final Check c;
    private final Random random;
    private final EnvelopeCard x = new EnvelopeCard();

    private RefusalTest(Check c, int run) {
        this.c = c;
        random = new Random(run);
    }

    public static void main(String[] args) {
        Check c = new Check("RefusalTest");
        for (int run = 0; run < 1500; run++) {
            new RefusalTest(c, run).run();
        }
        c.end();
    }

    private void run() {
        int calls = 0;
        while (calls < ENOUGH_CALLS) {
            int kind = random.nextInt(KINDS + 4);
            if (kind >= KINDS) {
                String office = OFFICES[random.nextInt(OFFICES.length)];
                Check.write(x, random.nextInt(4), office);
                calls += 1 + office.length();
            } else if (random.nextInt(3) == 0) {
                judge(kind);
                calls += CALLS_TO_JUDGE;
            } else {
                call(kind);
                calls++;
            }
        }
    }

    private void judge(int kind) {
        long digest = x.digest();
        int asked = x.asked();
        long upper = x.upper();
        long lower = x.lower();
        int finding = x.finding();
        int[] findings = new int[6];
        for (int f = 1; f <= 5; f++) {
            findings[f] = x.findings(f);
        }
        long answer = call(kind);
        if (answer >= 0 || answer == EnvelopeCard.NONE) {
            return;
        }
        String call = "call of kind " + kind + " answered " + answer;
        c.due(call + ": digest()", x.digest(), digest);
        c.due(call + ": asked()", x.asked(), asked);
        c.due(call + ": upper()", x.upper(), upper);
        c.due(call + ": lower()", x.lower(), lower);
        if (answer == EnvelopeCard.FINDING) {
            finding = x.finding();
            c.due(call + ": finding() is one", finding >= 1 && finding <= 5 ? 1 : 0, 1);
            findings[Math.max(0, Math.min(5, finding))]++;
        }
        c.due(call + ": finding()", x.finding(), finding);
        for (int f = 1; f <= 5; f++) {
            c.due(call + ": findings(" + f + ")", x.findings(f), findings[f]);
        }
    }

    private int any() {
        int kind = random.nextInt(12);
        if (kind == 0) {
            return random.nextInt();
        }
        return kind < 3 ? ODD_NUMBERS[random.nextInt(ODD_NUMBERS.length)] : random.nextInt(kind < 10 ? 4 : 64);
    }

    private long call(int kind) {
        return kind < 25 ? callOfFirst(kind) : callOfSecond(kind);
    }

    private long callOfFirst(int kind) {
        return switch (kind) {
            case 0 -> x.row(any(), any());
            case 1 -> x.lay(any(), any(), any());
            case 2 -> x.at(any(), any());
            case 3 -> x.tear(any());
            case 4 -> x.copy(any(), any(), any(), any(), any());
            case 5 -> x.mean(any());
            case 6 -> x.text(any(), any());
            case 7 -> x.put(any(), any(), any());
            case 8 -> x.fault(any());
            case 9, 24 -> x.office(any());
            case 10 -> x.desk(any(), any());
            case 11 -> x.mark(any(), any());
            case 12 -> x.law(any());
            case 13 -> x.name(any());
            case 14 -> x.link(any());
            case 15 -> x.begin(any(), any());
            case 16 -> x.go(any(), any());
            case 17 -> x.where();
            case 18 -> x.told(any(), any());
            case 19 -> x.coins();
            case 20 -> x.words();
            case 21 -> x.next(any());
            case 22 -> x.keep(any());
            default -> x.on(any());
        };
    }

    private long callOfSecond(int kind) {
        return switch (kind) {
            case 25 -> x.friday(any());
            case 26 -> x.odds(any(), any());
            case 27 -> x.ask(any(), any(), any());
            case 28 -> x.rule(any(), any());
            case 29 -> x.order(any());
            case 30 -> x.most(any(), any());
            case 31 -> x.spans(any());
            case 32 -> x.best(any());
            case 33 -> x.first(any(), any());
            case 34 -> x.buy(any());
            case 35 -> x.fill(any());
            case 36 -> x.nothing(any());
            case 37 -> x.gaveNone(any(), any());
            case 38 -> x.fits(any(), any(), any());
            case 39 -> x.room(any(), any(), any());
            case 40 -> x.starts(any(), any());
            case 41, 48 -> x.year(any());
            case 42 -> x.balance(any());
            case 43 -> x.forget(any());
            case 44 -> x.even(any());
            case 45 -> x.count(any());
            case 46 -> x.findings(any());
            default -> x.go(random.nextInt(61), 1 + random.nextInt(1000));
        };
    }
}
