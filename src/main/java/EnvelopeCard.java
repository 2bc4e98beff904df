/**
 * An office in which an envelope and a card go from desk to desk until Friday.
 * Words in capitals are those of the document.
 *
 * <p>All rows that a call works on are made once, with the object: no call makes anything.
 */
public final class EnvelopeCard {
    public static final int BAD = -1, FULL = -2, FINDING = -3, STATE = -4, SPENT = -6, NONE = -9;

    private static final int NOTHING = 1, BEYOND = 2, UNLIKE = 3, NOUGHT = 4, SIZE = 5;
    private static final int FINDINGS = 5;

    private static final int ROWS = 6, ROW_PLACES = 40, TEXTS = 4, TEXT_PLACES = 100;
    private static final int MISSING = -1, BLANK = 32;

    private static final int MOST_DESKS = 9, WORDS = 10, KEPT_ROUNDS = 3;
    private static final int HAND = 0, QUICK = 1, HEAPED = 2, AWAY = 3, COPIED = 4, EMPTY = 5;
    private static final int[] LETTERS = {104, 113, 112, 97, 99, 101};
    private static final int FACTS = 6;
    private static final int KIND = 0, TIE = 1, PAY = 2, WORD = 3, HEAP = 4, FIRST_HOUR = 4, LAST_HOUR = 5;

    private static final int LAWS = 3, BY_PAY = 1, BY_MEAN = 2, MOST_NAMED = 60;
    private static final int RULES = 3, BY_NUMBERS = 0, NEAREST = 1;
    private static final int STAYS = -1, HOME = -2;

    private static final int LOTS = 12, MOST_GO = 60, MOST_HOURS = 1000, MOST_AHEAD = 12, MOST_PARTS = 99;
    private static final long LOT_FACTOR = 48271L, LOT_MODULUS = 2147483647L;

    private static final int MOST_ORDERED = 6, ORDERS_OF_SIX = 720;
    private static final int MOST_GIFTS = 12, MOST_PRICE = 999, MOST_SUM_ASKED = 99;
    private static final int MOST_WIDTH = 40, MOST_LINES = 20, MOST_FREE_NAMES = 8;
    private static final int MOST_YEARS = 40, MOST_EVEN_YEARS = 20;

    private final Shelf rows = new Shelf(ROWS, ROW_PLACES);
    private final Shelf texts = new Shelf(TEXTS, TEXT_PLACES);
    private final Desks desks = new Desks();
    private final Desks draft = new Desks();
    private final Round round = new Round();
    private final Round[] kept = new Round[KEPT_ROUNDS];
    private final Years years = new Years();
    private final Walk walk = new Walk();
    private final Pot lying = new Pot();
    private final Pot trial = new Pot();
    private final Card card = new Card();
    private final Forecast forecast = new Forecast();
    private final Order sequence = new Order();
    private final Packing packing = new Packing();
    private final int[] findingCounts = new int[FINDINGS + 1];
    private int latestFinding = 0;
    private int askedNumber = 0;
    private long upperNumber = 0;
    private long lowerNumber = 1;

    public EnvelopeCard() {
        for (int k = 0; k < kept.length; k++) {
            kept[k] = new Round();
        }
    }

    // ---- 1 rows, texts, offices

    public int row(int r, int n) {
        if (!rows.names(r) || n > ROW_PLACES) {
            return BAD;
        }
        if (n < 0) {
            return refuse(SIZE);
        }
        rows.make(r, n, 0);
        return n;
    }

    public int lay(int r, int i, int v) {
        int refused = refusePlace(rows, r, i);
        if (refused != 0) {
            return refused;
        }
        int before = rows.cell(r, i);
        rows.setCell(r, i, v);
        return tell(before, 1);
    }

    public int at(int r, int i) {
        int refused = refusePlace(rows, r, i);
        if (refused != 0) {
            return refused;
        }
        return tell(rows.cell(r, i), 1);
    }

    public int tear(int r) {
        int refused = refuseMissing(rows, r);
        if (refused != 0) {
            return refused;
        }
        rows.drop(r);
        return 1;
    }

    public int copy(int r, int i, int to, int j, int n) {
        if (!rows.names(r) || !rows.names(to)) {
            return BAD;
        }
        if (n < 0) {
            return refuse(SIZE);
        }
        if (!rows.isThere(r) || !rows.isThere(to)) {
            return refuse(NOTHING);
        }
        if (!rows.hasSpan(r, i, n) || !rows.hasSpan(to, j, n)) {
            return refuse(BEYOND);
        }
        rows.copySpan(r, i, to, j, n);
        return 1;
    }

    public int mean(int r) {
        int refused = refuseMissing(rows, r);
        if (refused != 0) {
            return refused;
        }
        int size = rows.sizeOf(r);
        if (size == 0) {
            return refuse(NOUGHT);
        }
        long sum = 0;
        for (int i = 0; i < size; i++) {
            sum += rows.cell(r, i);
        }
        return tell((int) (sum / size), 1);
    }

    public int text(int t, int n) {
        if (!texts.names(t) || n > TEXT_PLACES) {
            return BAD;
        }
        if (n < 0) {
            return refuse(SIZE);
        }
        texts.make(t, n, BLANK);
        return n;
    }

    public int put(int t, int i, int v) {
        int refused = refusePlace(texts, t, i);
        if (refused != 0) {
            return refused;
        }
        int before = texts.cell(t, i);
        texts.setCell(t, i, (byte) v);
        return before + 1000;
    }

    public int fault(int t) {
        int refused = refuseMissing(texts, t);
        if (refused != 0) {
            return refused;
        }
        return draft.read(texts, t);
    }

    public int office(int t) {
        int refused = refuseMissing(texts, t);
        if (refused != 0) {
            return refused;
        }
        if (draft.read(texts, t) != NONE) {
            return STATE;
        }
        desks.read(texts, t);
        round.reset();
        years.number = 0;
        for (int k = 0; k < KEPT_ROUNDS; k++) {
            forgetKept(k);
        }
        return desks.number;
    }

    public int desk(int i, int what) {
        if (!desks.names(i) || what < 0 || what >= FACTS) {
            return BAD;
        }
        return tell(desks.fact(i, what), 1);
    }

    public int mark(int i, int kind) {
        if (!desks.names(i) || kind <= HAND || kind > EMPTY) {
            return BAD;
        }
        if (!desks.isOfKind(i, kind)) {
            return refuse(UNLIKE);
        }
        switch (kind) {
            case QUICK:
                return (i > 0 ? 1 : 0) + (i + 1 < desks.number ? 1 : 0);
            case HEAPED:
                return desks.hoursInHeap(i);
            case AWAY:
                return desks.isAway(i, round.hour) ? 1 : 0;
            case COPIED:
                card.layFrom(round);
                return card.wordBy(desks, i);
            default:
                lying.layFrom(round);
                return lying.wouldGive(desks, i);
        }
    }

    public int law(int v) {
        if (v < 0 || v >= LAWS) {
            return BAD;
        }
        int before = round.law;
        round.law = v;
        return before;
    }

    public int name(int v) {
        if (v < 0 || v > MOST_NAMED) {
            return BAD;
        }
        int before = round.named;
        round.named = v;
        return before;
    }

    public int link(int v) {
        if (v != 0 && v != 1) {
            return BAD;
        }
        int before = round.linked;
        round.linked = v;
        return before;
    }

    // ---- 2 rounds

    public int begin(int i, int rule) {
        if (!desks.names(i) || rule < 0 || rule >= RULES) {
            return BAD;
        }
        round.beginAt(i, rule);
        return desks.number;
    }

    public int go(int n, int seed) {
        if (n < 0 || n > MOST_GO || seed < 1 || seed >= LOT_MODULUS) {
            return BAD;
        }
        if (desks.number == 0) {
            return STATE;
        }
        if (round.hour + n > MOST_HOURS) {
            return SPENT;
        }
        long lot = seed;
        for (int k = 0; k < n; k++) {
            if (!round.isBack) {
                lot = passOneHour(lot);
            }
            round.hour++;
        }
        return round.hour;
    }

    public int where() {
        if (desks.number == 0) {
            return STATE;
        }
        return tell(round.isBack ? 1 : 0, round.at);
    }

    public int told(int i, int what) {
        if (!desks.names(i) || what < 0 || what >= Round.FACTS_TOLD) {
            return BAD;
        }
        return tell(round.factTold(i, what), 1);
    }

    public int coins() {
        lying.layFrom(round);
        return tell(round.numberOfGivers(), lying.total);
    }

    public int words() {
        card.layFrom(round);
        int word = card.mostOften();
        return tell(card.timesOf(word), word);
    }

    public int next(int i) {
        if (!desks.names(i)) {
            return BAD;
        }
        if (round.isBack) {
            return STATE;
        }
        int target = desks.nextOf(i, round.crossed | 1 << i, round.hour, round.rule);
        return tell(target == HOME ? 1 : 0, target >= 0 ? target : NONE);
    }

    public int keep(int k) {
        Round place = keptAt(k);
        if (place == null) {
            return BAD;
        }
        if (desks.number == 0) {
            return STATE;
        }
        place.copyFrom(round);
        place.isThere = true;
        return round.hour;
    }

    public int on(int k) {
        Round place = keptAt(k);
        if (place == null) {
            return BAD;
        }
        if (!place.isThere) {
            return refuse(NOTHING);
        }
        round.copyFrom(place);
        return round.hour;
    }

    // ---- 3 odds

    public int friday(int n) {
        if (!isAhead(n)) {
            return BAD;
        }
        if (desks.number == 0) {
            return STATE;
        }
        forecast.look(desks, round, n);
        return tellFraction(forecast.partHome(), forecast.whole, 1);
    }

    public int odds(int n, int i) {
        if (!isAhead(n) || !desks.names(i)) {
            return BAD;
        }
        forecast.look(desks, round, n);
        return tellFraction(forecast.partAt(i, round.start), forecast.whole, 1);
    }

    public int ask(int n, int a, int b) {
        if (!isAhead(n) || b < 1 || b > MOST_PARTS || a < 0 || a > b) {
            return BAD;
        }
        if (desks.number == 0) {
            return STATE;
        }
        forecast.look(desks, round, n);
        int taken = 0;
        long part = 0;
        for (int k = 0; k < desks.number && part * b < forecast.whole * a; k++) {
            int likeliest = likeliestBut(taken);
            part += forecast.partAt(likeliest, round.start);
            taken |= 1 << likeliest;
        }
        return tell(taken, Integer.bitCount(taken));
    }

    public int rule(int i, int n) {
        if (!desks.names(i) || !isAhead(n)) {
            return BAD;
        }
        int best = 0;
        long bestPart = -1;
        for (int rule = 0; rule < RULES; rule++) {
            forecast.lookAnew(desks, i, rule, n);
            if (forecast.partHome() > bestPart) {
                best = rule;
                bestPart = forecast.partHome();
            }
        }
        return tellFraction(bestPart, forecast.whole, best);
    }

    // ---- 4 how much

    public int order(int r) {
        int refused = readOrder(r);
        if (refused != 0) {
            return refused;
        }
        lying.layFrom(round);
        return bringIn();
    }

    public int most(int set, int r) {
        if (!rows.names(r) || !isSetOfDesks(set)) {
            return BAD;
        }
        int ordered = set & ~round.crossed;
        if (Integer.bitCount(ordered) > MOST_ORDERED) {
            return SPENT;
        }
        tryAllOrders(ordered);
        rows.make(r, sequence.length, 0);
        for (int k = 0; k < sequence.length; k++) {
            rows.setCell(r, k, sequence.bestAt(k));
        }
        return sequence.most;
    }

    public int spans(int set) {
        if (!isSetOfDesks(set)) {
            return BAD;
        }
        int ordered = set & ~round.crossed;
        if (Integer.bitCount(ordered) > MOST_ORDERED) {
            return SPENT;
        }
        tryAllOrders(ordered);
        return tell(sequence.most, sequence.least);
    }

    public int best(int r) {
        int refused = readOrder(r);
        if (refused != 0) {
            return refused;
        }
        lying.layFrom(round);
        int bestSum = 0;
        int mostBrought = -1;
        for (int sum = 0; sum <= MOST_NAMED; sum++) {
            lying.named = sum;
            int brought = bringIn();
            if (brought > mostBrought) {
                bestSum = sum;
                mostBrought = brought;
            }
        }
        return tell(mostBrought, bestSum);
    }

    public int first(int i, int r) {
        if (!desks.names(i)) {
            return BAD;
        }
        int refused = readOrder(r);
        if (refused != 0) {
            return refused;
        }
        if (round.isCrossed(i) || sequence.holds(i)) {
            return refuse(UNLIKE);
        }
        lying.layFrom(round);
        int without = bringIn();
        lying.take(lying.gives(desks, i));
        return tell(bringIn() - without, 1);
    }

    public int buy(int r) {
        int refused = refuseMissing(rows, r);
        if (refused != 0) {
            return refused;
        }
        if (rows.sizeOf(r) > MOST_GIFTS) {
            return refuse(SIZE);
        }
        if (!rows.allWithin(r, 0, MOST_PRICE)) {
            return refuse(UNLIKE);
        }
        lying.layFrom(round);
        int bestSet = 0;
        int bestPrice = 0;
        int price = 0;
        for (int set = 1; set < 1 << rows.sizeOf(r); set++) {
            price += priceStep(r, set);
            if (price <= lying.total && price > bestPrice) {
                bestSet = set;
                bestPrice = price;
            }
        }
        return tell(bestSet, bestPrice);
    }

    public int fill(int price) {
        if (price < 0 || price > MOST_PRICE) {
            return BAD;
        }
        lying.layFrom(round);
        for (int i = 0; i < desks.number; i++) {
            if (!round.isCrossed(i)) {
                lying.take(lying.gives(desks, i));
            }
        }
        return Math.max(0, price - lying.total);
    }

    // ---- 5 who gave nothing

    public int nothing(int v) {
        if (v < 0 || v > MOST_SUM_ASKED) {
            return BAD;
        }
        int ways = 0;
        int never = round.crossed;
        for (int givers = 0; givers <= round.crossed; givers++) {
            if (isWay(givers, v)) {
                ways++;
                never &= ~givers;
            }
        }
        return tell(ways == 0 ? 0 : never, ways);
    }

    public int gaveNone(int i, int v) {
        if (!desks.names(i) || v < 0 || v > MOST_SUM_ASKED) {
            return BAD;
        }
        if (!round.isCrossed(i)) {
            return STATE;
        }
        int ways = 0;
        int without = 0;
        for (int givers = 0; givers <= round.crossed; givers++) {
            if (isWay(givers, v)) {
                ways++;
                without += 1 - (givers >> i & 1);
            }
        }
        if (ways == 0) {
            return refuse(NOUGHT);
        }
        return tellFraction(without, ways, without);
    }

    // ---- 6 cards

    public int fits(int w, int h, int r) {
        if (!isCard(w, h)) {
            return BAD;
        }
        int refused = refuseMissing(rows, r);
        if (refused != 0) {
            return refused;
        }
        if (!rows.allWithin(r, 1, MOST_WIDTH)) {
            return refuse(UNLIKE);
        }
        int laid = 0;
        int fitting = 0;
        for (int i = 0; i < rows.sizeOf(r); i++) {
            int then = packing.withName(laid, rows.cell(r, i), w);
            if (packing.linesOf(then) > h) {
                break;
            }
            laid = then;
            fitting++;
        }
        return tell(packing.linesOf(laid), fitting);
    }

    public int room(int w, int h, int r) {
        if (!isCard(w, h)) {
            return BAD;
        }
        int refused = refuseMissing(rows, r);
        if (refused != 0) {
            return refused;
        }
        if (rows.sizeOf(r) > MOST_FREE_NAMES) {
            return refuse(SIZE);
        }
        if (!rows.allWithin(r, 1, MOST_WIDTH)) {
            return refuse(UNLIKE);
        }
        int set = packing.fullestSet(rows, r, w, h);
        return tell(set, Integer.bitCount(set));
    }

    public int starts(int i, int v) {
        if (!desks.names(i) || v < 0 || v >= WORDS) {
            return BAD;
        }
        if (round.isCrossed(i)) {
            return STATE;
        }
        card.layFrom(round);
        card.add(v);
        for (int j = 0; j < desks.number; j++) {
            if (j != i && !round.isCrossed(j)) {
                card.add(card.wordBy(desks, j));
            }
        }
        return card.timesOf(v);
    }

    // ---- 7 years

    public int year(int i) {
        if (!desks.names(i)) {
            return BAD;
        }
        trial.copyTermsFrom(round);
        return years.add(desks, trial, i);
    }

    public int balance(int i) {
        if (!desks.names(i)) {
            return BAD;
        }
        return tell(years.balanceOf(i), 1);
    }

    public int forget(int n) {
        if (n < 0 || n > years.number) {
            return BAD;
        }
        int forgotten = years.number - n;
        years.number = n;
        return forgotten;
    }

    public int even(int r) {
        if (!rows.names(r)) {
            return BAD;
        }
        if (desks.number == 0) {
            return STATE;
        }
        if (!rows.isThere(r)) {
            return refuse(NOTHING);
        }
        if (rows.sizeOf(r) > MOST_EVEN_YEARS) {
            return refuse(SIZE);
        }
        if (!rows.allWithin(r, 0, desks.number - 1)) {
            return refuse(UNLIKE);
        }
        trial.copyTermsFrom(round);
        int bestLaw = 0;
        int least = 0;
        for (int law = 0; law < LAWS; law++) {
            trial.law = law;
            int apart = years.apartAfter(desks, trial, rows, r);
            if (law == 0 || apart < least) {
                bestLaw = law;
                least = apart;
            }
        }
        return tell(least, bestLaw);
    }

    // ---- 8 what is told

    public int asked() {
        return askedNumber;
    }

    public long upper() {
        return upperNumber;
    }

    public long lower() {
        return lowerNumber;
    }

    public int count(int what) {
        switch (what) {
            case 0:
                return desks.number;
            case 1:
                return Integer.bitCount(round.crossed);
            case 2:
                return round.hour;
            case 3:
                return desks.numberOfKind(COPIED);
            case 4:
                return years.number;
            case 5:
                return numberOfKept();
            case 6:
                return rows.numberThere();
            case 7:
                return texts.numberThere();
            default:
                return BAD;
        }
    }

    public int finding() {
        return latestFinding;
    }

    public int findings(int f) {
        if (f < 1 || f >= findingCounts.length) {
            return BAD;
        }
        return findingCounts[f];
    }

    public long digest() {
        long h = 17;
        for (int what = 0; what < 8; what++) {
            h = 31 * h + count(what);
        }
        h = round.mixInto(h);
        for (int i = 0; i < desks.number; i++) {
            h = mixDesk(h, i);
        }
        for (int y = 0; y < years.number; y++) {
            h = 31 * h + years.leaverOf(y);
        }
        for (int k = 0; k < KEPT_ROUNDS; k++) {
            h = 31 * h + hourKept(k);
        }
        return texts.mixInto(rows.mixInto(h));
    }

    // ---- what several calls share

    private int refuse(int finding) {
        if (finding >= 1 && finding < findingCounts.length) {
            findingCounts[finding]++;
            latestFinding = finding;
        }
        return FINDING;
    }

    /** 0, or why there is no such row or text. */
    private int refuseMissing(Shelf shelf, int k) {
        if (!shelf.names(k)) {
            return BAD;
        }
        return shelf.isThere(k) ? 0 : refuse(NOTHING);
    }

    /** 0, or why there is no such place in a row or text. */
    private int refusePlace(Shelf shelf, int k, int i) {
        int refused = refuseMissing(shelf, k);
        if (refused != 0) {
            return refused;
        }
        return shelf.hasPlace(k, i) ? 0 : refuse(BEYOND);
    }

    private int tell(int number, int answer) {
        askedNumber = number;
        return answer;
    }

    private int tellFraction(long part, long whole, int answer) {
        long divisor = commonDivisor(part, whole);
        upperNumber = divisor == 0 ? 0 : part / divisor;
        lowerNumber = divisor == 0 ? 1 : whole / divisor;
        return answer;
    }

    private static long commonDivisor(long a, long b) {
        long greater = a;
        long rest = b;
        // Euclid's steps on longs are below a hundred
        for (int step = 0; step < 100 && rest != 0; step++) {
            long left = greater % rest;
            greater = rest;
            rest = left;
        }
        return greater;
    }

    private Round keptAt(int k) {
        return k >= 0 && k < kept.length ? kept[k] : null;
    }

    private void forgetKept(int k) {
        Round place = keptAt(k);
        if (place != null) {
            place.isThere = false;
        }
    }

    private int hourKept(int k) {
        Round place = keptAt(k);
        return place != null && place.isThere ? place.hour : MISSING;
    }

    private int numberOfKept() {
        int number = 0;
        for (int k = 0; k < KEPT_ROUNDS; k++) {
            if (hourKept(k) != MISSING) {
                number++;
            }
        }
        return number;
    }

    private static boolean isAhead(int n) {
        return n >= 0 && n <= MOST_AHEAD;
    }

    private static boolean isCard(int w, int h) {
        return w >= 1 && w <= MOST_WIDTH && h >= 1 && h <= MOST_LINES;
    }

    private boolean isSetOfDesks(int set) {
        return (set & ~desks.all()) == 0;
    }

    private long passOneHour(long lot) {
        walk.passHour(desks, round.at, round.crossed, round.hour, round.rule);
        for (int k = 0; k < walk.signed; k++) {
            sign(walk.signerAt(k));
        }
        if (walk.heap == 0) {
            round.moveTo(walk.at, walk.target);
            return lot;
        }
        long drawn = lot * LOT_FACTOR % LOT_MODULUS;
        round.moveTo(walk.at, drawn % LOTS < walk.heap ? walk.target : STAYS);
        return drawn;
    }

    private void sign(int i) {
        lying.layFrom(round);
        card.layFrom(round);
        round.cross(i, lying.gives(desks, i), card.wordBy(desks, i));
    }

    private int likeliestBut(int taken) {
        int likeliest = 0;
        long mostPart = -1;
        for (int i = 0; i < desks.number; i++) {
            long part = forecast.partAt(i, round.start);
            if ((taken >> i & 1) == 0 && part > mostPart) {
                likeliest = i;
                mostPart = part;
            }
        }
        return likeliest;
    }

    /** Reads a ROW as ORDER; 0, or why it is refused. */
    private int readOrder(int r) {
        int refused = refuseMissing(rows, r);
        if (refused != 0) {
            return refused;
        }
        sequence.clear();
        for (int k = 0; k < rows.sizeOf(r); k++) {
            int i = rows.cell(r, k);
            if (!desks.names(i) || round.isCrossed(i) || sequence.holds(i)) {
                return refuse(UNLIKE);
            }
            sequence.add(i);
        }
        return 0;
    }

    /** What those of the ORDER that was read put in together, behind what is lying there. */
    private int bringIn() {
        trial.copyFrom(lying);
        int before = trial.total;
        for (int k = 0; k < sequence.length; k++) {
            trial.take(trial.gives(desks, sequence.deskAt(k)));
        }
        return trial.total - before;
    }

    private void tryAllOrders(int set) {
        sequence.clear();
        for (int i = 0; i < desks.number; i++) {
            if ((set >> i & 1) != 0) {
                sequence.add(i);
            }
        }
        lying.layFrom(round);
        sequence.judgeFirst(bringIn());
        for (int turn = 1; turn < ORDERS_OF_SIX && sequence.turn(); turn++) {
            sequence.judge(bringIn());
        }
    }

    /** How much the price changes from the set with the next lesser bits to this one. */
    private int priceStep(int r, int set) {
        int lowest = Integer.numberOfTrailingZeros(set);
        int step = rows.cell(r, lowest);
        for (int k = 0; k < lowest && k < MOST_GIFTS; k++) {
            step -= rows.cell(r, k);
        }
        return step;
    }

    private boolean isWay(int givers, int v) {
        if ((givers & ~round.crossed) != 0) {
            return false;
        }
        int sum = 0;
        for (int i = 0; i < desks.number; i++) {
            if ((givers >> i & 1) != 0) {
                sum += desks.fact(i, TIE);
            }
        }
        return sum == v;
    }

    private long mixDesk(long before, int i) {
        long h = before;
        for (int what = 0; what < FACTS; what++) {
            h = 31 * h + desks.fact(i, what);
        }
        for (int what = 0; what < Round.FACTS_TOLD; what++) {
            h = 31 * h + round.factTold(i, what);
        }
        return 31 * h + years.balanceOf(i);
    }

    /** Rows of numbers, each of them there or missing. */
    private static final class Shelf {
        final int places;
        final int[] sizes;
        final int[] cells;

        Shelf(int number, int places) {
            this.places = Math.max(0, places);
            sizes = new int[Math.max(0, number)];
            cells = new int[Math.max(0, sizes.length * this.places)];
            for (int k = 0; k < sizes.length; k++) {
                sizes[k] = MISSING;
            }
        }

        boolean names(int k) {
            return k >= 0 && k < sizes.length;
        }

        int sizeOf(int k) {
            return k >= 0 && k < sizes.length ? sizes[k] : MISSING;
        }

        boolean isThere(int k) {
            return sizeOf(k) != MISSING;
        }

        boolean hasPlace(int k, int i) {
            return i >= 0 && i < sizeOf(k);
        }

        boolean hasSpan(int k, int i, int n) {
            return n >= 0 && i >= 0 && i <= sizeOf(k) - n;
        }

        int cell(int k, int i) {
            int c = k * places + i;
            return hasPlace(k, i) && c >= 0 && c < cells.length ? cells[c] : 0;
        }

        void setCell(int k, int i, int v) {
            int c = k * places + i;
            if (hasPlace(k, i) && c >= 0 && c < cells.length) {
                cells[c] = v;
            }
        }

        void make(int k, int n, int v) {
            if (k >= 0 && k < sizes.length && n >= 0 && n <= places) {
                sizes[k] = n;
                for (int i = 0; i < n; i++) {
                    setCell(k, i, v);
                }
            }
        }

        void drop(int k) {
            if (k >= 0 && k < sizes.length) {
                sizes[k] = MISSING;
            }
        }

        /** Begins at the end that is not overwritten before it is read. */
        void copySpan(int from, int i, int to, int j, int n) {
            boolean backward = i < j;
            for (int k = 0; k < n; k++) {
                int step = backward ? n - 1 - k : k;
                setCell(to, j + step, cell(from, i + step));
            }
        }

        boolean allWithin(int k, int low, int high) {
            for (int i = 0; i < sizeOf(k); i++) {
                if (cell(k, i) < low || cell(k, i) > high) {
                    return false;
                }
            }
            return true;
        }

        int numberThere() {
            int number = 0;
            for (int k = 0; k < sizes.length; k++) {
                if (isThere(k)) {
                    number++;
                }
            }
            return number;
        }

        long mixInto(long before) {
            long h = before;
            for (int k = 0; k < sizes.length; k++) {
                h = 31 * h + sizeOf(k);
                for (int i = 0; i < sizeOf(k); i++) {
                    h = 31 * h + cell(k, i);
                }
            }
            return h;
        }
    }

    /** The DESKS of AN OFFICE, as a TEXT tells them. */
    private static final class Desks {
        final int[] facts = new int[MOST_DESKS * FACTS];
        int number = 0;

        boolean names(int i) {
            return i >= 0 && i < number;
        }

        int all() {
            return (1 << number) - 1;
        }

        int fact(int i, int what) {
            if (i < 0 || i >= number || what < 0 || what >= FACTS) {
                return NONE;
            }
            int f = i * FACTS + what;
            return f >= 0 && f < facts.length ? facts[f] : NONE;
        }

        void setFact(int i, int what, int v) {
            int f = i * FACTS + what;
            if (f >= 0 && f < facts.length) {
                facts[f] = v;
            }
        }

        boolean isOfKind(int i, int kind) {
            int own = fact(i, KIND);
            return own == kind || kind == COPIED && own == EMPTY;
        }

        int numberOfKind(int kind) {
            int found = 0;
            for (int i = 0; i < number; i++) {
                if (isOfKind(i, kind)) {
                    found++;
                }
            }
            return found;
        }

        boolean isAway(int i, int hour) {
            return fact(i, KIND) == AWAY && hour >= fact(i, FIRST_HOUR) && hour <= fact(i, LAST_HOUR);
        }

        /** The HEAP of a HEAPED one; 0 of all others, who pass it on without LOTS. */
        int heapOf(int i) {
            return fact(i, KIND) == HEAPED ? fact(i, HEAP) : 0;
        }

        int hoursInHeap(int i) {
            int heap = heapOf(i);
            return heap > 0 ? LOTS / heap : 0;
        }

        /** The NEXT of one who is CROSSED; HOME if all are, STAYS if all others are AWAY. */
        int nextOf(int from, int crossed, int hour, int rule) {
            if ((all() & ~crossed) == 0) {
                return HOME;
            }
            int found = STAYS;
            int foundRank = 0;
            for (int i = 0; i < number; i++) {
                if ((crossed >> i & 1) == 0 && !isAway(i, hour + 1)) {
                    int rank = rankOf(from, i, rule);
                    if (found == STAYS || rank < foundRank) {
                        found = i;
                        foundRank = rank;
                    }
                }
            }
            return found;
        }

        static int rankOf(int from, int to, int rule) {
            if (rule == BY_NUMBERS) {
                return to > from ? to - from : to - from + MOST_DESKS;
            }
            int far = Math.abs(to - from);
            return rule == NEAREST ? far : -far;
        }

        /** Reads AN OFFICE from a TEXT: its FAULT, or NONE. */
        int read(Shelf texts, int t) {
            number = 0;
            int size = texts.sizeOf(t);
            int place = 0;
            while (place < size) {
                int sign = texts.cell(t, place);
                if (sign == BLANK) {
                    place++;
                } else {
                    int kind = kindOf(sign);
                    if (kind == NONE || number >= MOST_DESKS) {
                        return place;
                    }
                    int fault = readDesk(texts, t, place, kind);
                    if (fault != NONE) {
                        return fault;
                    }
                    place += 1 + figuresOf(kind);
                }
            }
            return NONE;
        }

        int readDesk(Shelf texts, int t, int place, int kind) {
            setFact(number, KIND, kind);
            setFact(number, HEAP, NONE);
            setFact(number, LAST_HOUR, NONE);
            int before = 0;
            for (int what = TIE; what <= figuresOf(kind); what++) {
                if (!texts.hasPlace(t, place + what)) {
                    return texts.sizeOf(t);
                }
                int figure = texts.cell(t, place + what) - 48;
                if (figure < leastFigure(kind, what, before) || figure > 9) {
                    return place + what;
                }
                setFact(number, what, figure);
                before = figure;
            }
            number++;
            return NONE;
        }

        static int leastFigure(int kind, int what, int before) {
            if (kind == HEAPED && what == HEAP) {
                return 1;
            }
            return what == LAST_HOUR ? before : 0;
        }

        static int figuresOf(int kind) {
            if (kind == HEAPED) {
                return HEAP;
            }
            return kind == AWAY ? LAST_HOUR : WORD;
        }

        static int kindOf(int sign) {
            for (int kind = 0; kind < LETTERS.length; kind++) {
                if (LETTERS[kind] == sign) {
                    return kind;
                }
            }
            return NONE;
        }
    }

    /** A ROUND: the way of THE ENVELOPE so far, what was put in and written, and by which terms. */
    private static final class Round {
        static final int FACTS_TOLD = 4;

        final int[] hours = new int[MOST_DESKS];
        final int[] gifts = new int[MOST_DESKS];
        final int[] written = new int[MOST_DESKS];
        int start = 0;
        int rule = 0;
        int at = 0;
        boolean isBack = false;
        int hour = 0;
        int crossed = 0;
        int law = 0;
        int named = 0;
        int linked = 0;
        boolean isThere = false;

        void reset() {
            law = 0;
            named = 0;
            linked = 0;
            beginAt(0, 0);
        }

        void beginAt(int i, int byRule) {
            start = i;
            rule = byRule;
            at = i;
            isBack = false;
            hour = 0;
            crossed = 0;
        }

        void copyFrom(Round other) {
            copyCells(other.hours, hours);
            copyCells(other.gifts, gifts);
            copyCells(other.written, written);
            start = other.start;
            rule = other.rule;
            at = other.at;
            isBack = other.isBack;
            hour = other.hour;
            crossed = other.crossed;
            law = other.law;
            named = other.named;
            linked = other.linked;
        }

        static void copyCells(int[] from, int[] to) {
            for (int i = 0; i < from.length && i < to.length; i++) {
                to[i] = from[i];
            }
        }

        boolean isCrossed(int i) {
            return i >= 0 && i < MOST_DESKS && (crossed >> i & 1) != 0;
        }

        void cross(int i, int gift, int word) {
            if (i >= 0 && i < hours.length && i < gifts.length && i < written.length) {
                hours[i] = hour;
                gifts[i] = gift;
                written[i] = word;
                crossed |= 1 << i;
            }
        }

        void moveTo(int from, int target) {
            isBack = target == HOME;
            if (target == HOME) {
                at = start;
            } else {
                at = target == STAYS ? from : target;
            }
        }

        int factTold(int i, int what) {
            switch (what) {
                case 0:
                    return isCrossed(i) ? 1 : 0;
                case 1:
                    return isCrossed(i) && i < hours.length ? hours[i] : NONE;
                case 2:
                    return giftOf(i);
                case 3:
                    return wordOf(i);
                default:
                    return NONE;
            }
        }

        int giftOf(int i) {
            return isCrossed(i) && i < gifts.length ? gifts[i] : NONE;
        }

        int wordOf(int i) {
            return isCrossed(i) && i < written.length ? written[i] : NONE;
        }

        int numberOfGivers() {
            int number = 0;
            for (int i = 0; i < MOST_DESKS; i++) {
                if (giftOf(i) > 0) {
                    number++;
                }
            }
            return number;
        }

        long mixInto(long before) {
            long h = 31 * before + law;
            h = 31 * h + named;
            h = 31 * h + linked;
            h = 31 * h + start;
            h = 31 * h + rule;
            h = 31 * h + at;
            return 31 * h + (isBack ? 1 : 0);
        }
    }

    /** What happens in one HOUR, up to the LOT: who signs, and to whom it would be passed. */
    private static final class Walk {
        final int[] signers = new int[MOST_DESKS];
        int signed = 0;
        int at = 0;
        int crossed = 0;
        int target = STAYS;
        int heap = 0;

        int signerAt(int k) {
            return k >= 0 && k < signed && k < signers.length ? signers[k] : 0;
        }

        void passHour(Desks desks, int from, int crossedBefore, int hour, int rule) {
            signed = 0;
            at = from;
            crossed = crossedBefore;
            target = STAYS;
            heap = 0;
            // a chain of QUICK ones comes to no DESK twice
            for (int step = 0; step < MOST_DESKS; step++) {
                target = STAYS;
                if (desks.isAway(at, hour)) {
                    return;
                }
                signHere();
                target = desks.nextOf(at, crossed, hour, rule);
                if (target < 0 || !desks.isOfKind(at, QUICK)) {
                    heap = target == STAYS ? 0 : desks.heapOf(at);
                    return;
                }
                at = target;
            }
        }

        void signHere() {
            if ((crossed >> at & 1) == 0 && signed < signers.length) {
                signers[signed] = at;
                signed++;
                crossed |= 1 << at;
            }
        }
    }

    /** What lies in an ENVELOPE, and by which terms more is put in. */
    private static final class Pot {
        int law = 0;
        int named = 0;
        int linked = 0;
        int total = 0;
        int givers = 0;
        int least = 0;

        void copyTermsFrom(Round round) {
            law = round.law;
            named = round.named;
            linked = round.linked;
            clear();
        }

        void clear() {
            total = 0;
            givers = 0;
            least = 0;
        }

        void layFrom(Round round) {
            copyTermsFrom(round);
            for (int i = 0; i < MOST_DESKS; i++) {
                if (round.isCrossed(i)) {
                    take(round.giftOf(i));
                }
            }
        }

        void copyFrom(Pot other) {
            law = other.law;
            named = other.named;
            linked = other.linked;
            total = other.total;
            givers = other.givers;
            least = other.least;
        }

        void take(int gift) {
            total += gift;
            givers++;
            if (gift > 0 && (least == 0 || gift < least)) {
                least = gift;
            }
        }

        int gives(Desks desks, int i) {
            return desks.isOfKind(i, EMPTY) ? linked : wouldGive(desks, i);
        }

        /** What one gives who is not EMPTY. */
        int wouldGive(Desks desks, int i) {
            int gift = ownOf(desks, i);
            if (named > 0 && 2 * gift >= named) {
                gift = named;
            }
            return linked == 1 ? Math.max(gift, least) : gift;
        }

        int ownOf(Desks desks, int i) {
            int tie = desks.fact(i, TIE);
            if (law == BY_PAY) {
                return tie * desks.fact(i, PAY) / 9;
            }
            if (law == BY_MEAN && givers > 0) {
                return (tie + total / givers) / 2;
            }
            return tie;
        }
    }

    /** How often each WORD stands on a card. */
    private static final class Card {
        final int[] times = new int[WORDS];

        void layFrom(Round round) {
            for (int word = 0; word < times.length; word++) {
                times[word] = 0;
            }
            for (int i = 0; i < MOST_DESKS; i++) {
                if (round.isCrossed(i)) {
                    add(round.wordOf(i));
                }
            }
        }

        void add(int word) {
            if (word >= 0 && word < times.length) {
                times[word]++;
            }
        }

        int timesOf(int word) {
            return word >= 0 && word < times.length ? times[word] : 0;
        }

        int mostOften() {
            int found = NONE;
            int most = 0;
            for (int word = 0; word < times.length; word++) {
                if (times[word] > most) {
                    found = word;
                    most = times[word];
                }
            }
            return found;
        }

        int wordBy(Desks desks, int i) {
            int standing = desks.isOfKind(i, COPIED) ? mostOften() : NONE;
            return standing == NONE ? desks.fact(i, WORD) : standing;
        }
    }

    /** In how many parts of a whole it is at which DESK, who being CROSSED. */
    private static final class Spread {
        static final int KEYS = MOST_DESKS << MOST_DESKS;

        final long[] parts = new long[KEYS];
        final int[] keys = new int[KEYS];
        int number = 0;
        long partHome = 0;

        void clear() {
            for (int k = 0; k < number && k < keys.length; k++) {
                int key = keyAt(k);
                if (key >= 0 && key < parts.length) {
                    parts[key] = 0;
                }
            }
            number = 0;
            partHome = 0;
        }

        int keyAt(int k) {
            return k >= 0 && k < number && k < keys.length ? keys[k] : 0;
        }

        long partOf(int key) {
            return key >= 0 && key < parts.length ? parts[key] : 0;
        }

        static int deskOf(int key) {
            return key % MOST_DESKS;
        }

        static int crossedOf(int key) {
            return key / MOST_DESKS;
        }

        void add(int desk, int crossed, long part) {
            int key = crossed * MOST_DESKS + desk;
            if (part > 0 && key >= 0 && key < parts.length) {
                if (parts[key] == 0 && number < keys.length) {
                    keys[number] = key;
                    number++;
                }
                parts[key] += part;
            }
        }
    }

    /** The odds behind some HOURS, in parts of a whole of 12 by itself for each HOUR. */
    private static final class Forecast {
        final Walk walk = new Walk();
        Spread now = new Spread();
        Spread then = new Spread();
        long whole = 1;

        void look(Desks desks, Round round, int n) {
            startFrom(round.at, round.crossed, round.isBack);
            passHours(desks, round.hour, round.rule, n);
        }

        void lookAnew(Desks desks, int start, int rule, int n) {
            startFrom(start, 0, false);
            passHours(desks, 0, rule, n);
        }

        void startFrom(int at, int crossed, boolean isBack) {
            whole = 1;
            now.clear();
            if (isBack) {
                now.partHome = 1;
            } else {
                now.add(at, crossed, 1);
            }
        }

        void passHours(Desks desks, int hour, int rule, int n) {
            for (int k = 0; k < n; k++) {
                then.clear();
                then.partHome = now.partHome * LOTS;
                for (int s = 0; s < now.number; s++) {
                    spread(desks, now.keyAt(s), hour + k, rule);
                }
                Spread old = now;
                now = then;
                then = old;
                whole *= LOTS;
            }
        }

        void spread(Desks desks, int key, int hour, int rule) {
            walk.passHour(desks, Spread.deskOf(key), Spread.crossedOf(key), hour, rule);
            long part = now.partOf(key);
            int passing = walk.heap > 0 ? walk.heap : LOTS;
            if (walk.target == STAYS) {
                passing = 0;
            }
            then.add(walk.at, walk.crossed, part * (LOTS - passing));
            if (walk.target == HOME) {
                then.partHome += part * passing;
            } else if (walk.target >= 0) {
                then.add(walk.target, walk.crossed, part * passing);
            }
        }

        long partHome() {
            return now.partHome;
        }

        long partAt(int desk, int start) {
            long part = desk == start ? now.partHome : 0;
            for (int s = 0; s < now.number; s++) {
                int key = now.keyAt(s);
                if (Spread.deskOf(key) == desk) {
                    part += now.partOf(key);
                }
            }
            return part;
        }
    }

    /** An ORDER, and which of its turns brought most. */
    private static final class Order {
        final int[] sequence = new int[MOST_DESKS];
        final int[] bestSequence = new int[MOST_DESKS];
        int length = 0;
        int members = 0;
        int most = 0;
        int least = 0;

        void clear() {
            length = 0;
            members = 0;
        }

        void add(int i) {
            if (length < sequence.length && i >= 0 && i < MOST_DESKS) {
                sequence[length] = i;
                length++;
                members |= 1 << i;
            }
        }

        boolean holds(int i) {
            return i >= 0 && i < MOST_DESKS && (members >> i & 1) != 0;
        }

        int deskAt(int k) {
            return k >= 0 && k < sequence.length ? sequence[k] : 0;
        }

        int bestAt(int k) {
            return k >= 0 && k < bestSequence.length ? bestSequence[k] : 0;
        }

        void judgeFirst(int brought) {
            least = brought;
            most = brought;
            markBest();
        }

        void judge(int brought) {
            least = Math.min(least, brought);
            if (brought > most) {
                most = brought;
                markBest();
            }
        }

        void markBest() {
            for (int k = 0; k < sequence.length && k < bestSequence.length; k++) {
                bestSequence[k] = sequence[k];
            }
        }

        /** Turns to the next order by numbers; false behind the last one. */
        boolean turn() {
            int rising = length - 2;
            while (rising >= 0 && deskAt(rising) > deskAt(rising + 1)) {
                rising--;
            }
            if (rising < 0) {
                return false;
            }
            int greater = length - 1;
            while (greater > rising && deskAt(greater) < deskAt(rising)) {
                greater--;
            }
            swap(rising, greater);
            for (int a = rising + 1, b = length - 1; a < b; a++, b--) {
                swap(a, b);
            }
            return true;
        }

        void swap(int a, int b) {
            if (a >= 0 && a < sequence.length && b >= 0 && b < sequence.length) {
                int kept = sequence[a];
                sequence[a] = sequence[b];
                sequence[b] = kept;
            }
        }
    }

    /**
     * Names in the lines of a card. What is laid is told by one number, the lines begun times STEP
     * and the signs used in the last of these: the lesser, the more fits behind it.
     */
    private static final class Packing {
        static final int STEP = 64;
        static final int NO_ROOM = 1000 * STEP;

        final int[] leastLaid = new int[1 << MOST_FREE_NAMES];

        int linesOf(int laid) {
            return laid / STEP;
        }

        int withName(int laid, int size, int w) {
            if (laid >= NO_ROOM || size > w) {
                return NO_ROOM;
            }
            int used = laid % STEP;
            if (laid > 0 && used + 1 + size <= w) {
                return laid + 1 + size;
            }
            return (linesOf(laid) + 1) * STEP + size;
        }

        int leastOf(int set) {
            return set >= 0 && set < leastLaid.length ? leastLaid[set] : NO_ROOM;
        }

        /** The least of the sets of most names that fit in some order. */
        int fullestSet(Shelf rows, int r, int w, int h) {
            int sets = 1 << Math.min(rows.sizeOf(r), MOST_FREE_NAMES);
            int best = 0;
            for (int set = 0; set < sets && set < leastLaid.length; set++) {
                leastLaid[set] = set == 0 ? 0 : layLeast(rows, r, set, w);
                if (linesOf(leastLaid[set]) <= h && Integer.bitCount(set) > Integer.bitCount(best)) {
                    best = set;
                }
            }
            return best;
        }

        int layLeast(Shelf rows, int r, int set, int w) {
            int least = NO_ROOM;
            for (int i = 0; i < MOST_FREE_NAMES; i++) {
                if ((set >> i & 1) != 0) {
                    least = Math.min(least, withName(leastOf(set & ~(1 << i)), rows.cell(r, i), w));
                }
            }
            return least;
        }
    }

    /** YEARS: who left, and by how much each one's balance changed. */
    private static final class Years {
        final int[] leavers = new int[MOST_YEARS];
        final int[] changes = new int[MOST_YEARS * MOST_DESKS];
        final int[] balances = new int[MOST_DESKS];
        int number = 0;

        int leaverOf(int y) {
            return y >= 0 && y < number && y < leavers.length ? leavers[y] : 0;
        }

        int add(Desks desks, Pot pot, int leaver) {
            if (number < 0 || number >= leavers.length) {
                return FULL;
            }
            int base = number * MOST_DESKS;
            for (int i = 0; i < MOST_DESKS; i++) {
                setCell(changes, base + i, 0);
            }
            leavers[number] = leaver;
            number++;
            return celebrate(desks, pot, leaver, changes, base);
        }

        /** All but one put in for that one; the balances from a place on change by it. */
        int celebrate(Desks desks, Pot pot, int leaver, int[] into, int base) {
            pot.clear();
            for (int i = 0; i < desks.number; i++) {
                if (i != leaver) {
                    int gift = pot.gives(desks, i);
                    pot.take(gift);
                    setCell(into, base + i, cell(into, base + i) - gift);
                }
            }
            setCell(into, base + leaver, cell(into, base + leaver) + pot.total);
            return pot.total;
        }

        int balanceOf(int i) {
            int balance = 0;
            for (int y = 0; y < number; y++) {
                balance += cell(changes, y * MOST_DESKS + i);
            }
            return balance;
        }

        /** How far balances lie apart behind YEARS of those in a ROW. */
        int apartAfter(Desks desks, Pot pot, Shelf rows, int r) {
            for (int i = 0; i < balances.length; i++) {
                balances[i] = 0;
            }
            for (int y = 0; y < rows.sizeOf(r); y++) {
                celebrate(desks, pot, rows.cell(r, y), balances, 0);
            }
            int greatest = cell(balances, 0);
            int least = greatest;
            for (int i = 1; i < desks.number; i++) {
                greatest = Math.max(greatest, cell(balances, i));
                least = Math.min(least, cell(balances, i));
            }
            return greatest - least;
        }

        static int cell(int[] cells, int i) {
            return i >= 0 && i < cells.length ? cells[i] : 0;
        }

        static void setCell(int[] cells, int i, int v) {
            if (i >= 0 && i < cells.length) {
                cells[i] = v;
            }
        }
    }
}
