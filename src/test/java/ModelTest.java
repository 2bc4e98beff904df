import java.math.BigInteger;
import java.util.ArrayList;
import java.util.Collections;
import java.util.List;
import java.util.Random;
import java.util.TreeSet;

/** Random offices and rounds: the class answers as the Model does. */
public final class ModelTest {
    /** So few that an object is used for at most 512 calls. */
    private static final int CALLS_OF_A_KIND = 4;

    private final Check c;
    private final Random random;
    private final EnvelopeCard x = new EnvelopeCard();
    private final Model m = new Model();
    private String said = "";

    private ModelTest(Check c, int run) {
        this.c = c;
        random = new Random(run);
        said = "run " + run;
    }

    public static void main(String[] args) {
        Check c = new Check("ModelTest");
        for (int run = 0; run < 2000; run++) {
            new ModelTest(c, run).go();
        }
        c.end();
    }

    private void go() {
        String text = office();
        said += " " + text;
        Check.write(x, 0, text);
        m.office(text);
        c.due(said + " office", x.office(0), m.desks.size());
        for (int k = 0; k < CALLS_OF_A_KIND; k++) {
            for (int changes = random.nextInt(4); changes >= 0; changes--) {
                change();
            }
            switch (random.nextInt(6)) {
                case 0 -> told();
                case 1 -> odds();
                case 2 -> howMuch();
                case 3 -> cards();
                case 4 -> years();
                default -> marks();
            }
        }
    }

    private String office() {
        StringBuilder text = new StringBuilder();
        int number = 1 + random.nextInt(9);
        String letters = random.nextBoolean() ? "hqpace" : random.nextBoolean() ? "pqa" : "hceq";
        int most = random.nextInt(4) == 0 ? 2 : 10;
        for (int i = 0; i < number; i++) {
            char letter = letters.charAt(random.nextInt(letters.length()));
            text.append(letter).append(random.nextInt(10)).append(random.nextInt(10)).append(random.nextInt(most));
            if (letter == 'p') {
                text.append(1 + random.nextInt(9));
            }
            if (letter == 'a') {
                int first = random.nextInt(10);
                text.append(first).append(first + random.nextInt(10 - first));
            }
            text.append(" ".repeat(random.nextInt(3)));
        }
        return text.toString();
    }

    private int desk() {
        return random.nextInt(m.desks.size());
    }

    private void change() {
        int v = random.nextInt(61);
        switch (random.nextInt(12)) {
            case 0 -> {
                c.due(said + " law", x.law(v % 3), m.state.law);
                m.state.law = v % 3;
            }
            case 1 -> {
                int sum = random.nextBoolean() ? v : v % 12;
                c.due(said + " name", x.name(sum), m.state.sum);
                m.state.sum = sum;
            }
            case 2 -> {
                c.due(said + " link", x.link(v % 2), m.state.linked ? 1 : 0);
                m.state.linked = v % 2 == 1;
            }
            case 3 -> {
                int i = desk();
                c.due(said + " begin", x.begin(i, v % 3), m.desks.size());
                m.begin(i, v % 3);
            }
            case 4, 5 -> {
                c.due(said + " keep", x.keep(v % 3), m.state.hour);
                m.kept[v % 3] = m.state.copy();
            }
            case 6, 7 -> goOn(v % 3);
            default -> {
                int n = random.nextInt(4);
                int seed = 1 + random.nextInt(Integer.MAX_VALUE - 1);
                m.go(n, seed);
                c.due(said + " go", x.go(n, seed), m.state.hour);
            }
        }
    }

    private void goOn(int k) {
        if (m.kept[k] == null) {
            c.due(said + " on", x.on(k), EnvelopeCard.FINDING);
        } else {
            c.due(said + " on", x.on(k), m.kept[k].hour);
            m.state = m.kept[k].copy();
        }
    }

    private void told() {
        c.both(x, said + " where", x.where(), m.state.at, m.state.back ? 1 : 0);
        for (Model.Desk d : m.desks) {
            int i = d.number;
            Model.Entry entry = m.state.entries.stream().filter(e -> e.desk() == i).findFirst().orElse(null);
            c.tells(x, said + " told 0", x.told(i, 0), entry == null ? 0 : 1);
            c.tells(x, said + " told 1", x.told(i, 1), entry == null ? Model.NONE : entry.hour());
            c.tells(x, said + " told 2", x.told(i, 2), entry == null ? Model.NONE : entry.gift());
            c.tells(x, said + " told 3", x.told(i, 3), entry == null ? Model.NONE : entry.word());
        }
        c.both(x, said + " coins", x.coins(), m.coins(), (int) m.state.gifts().stream().filter(g -> g > 0).count());
        List<Integer> words = m.state.words();
        int word = words.isEmpty() ? Model.NONE : Model.oftenest(words);
        c.both(x, said + " words", x.words(), word, Collections.frequency(words, word));
        int i = desk();
        if (m.state.back) {
            c.due(said + " next", x.next(i), EnvelopeCard.STATE);
        } else {
            int next = m.nextOf(m.state, i);
            c.both(x, said + " next", x.next(i), next < 0 ? Model.NONE : next, next == -2 ? 1 : 0);
        }
    }

    private void odds() {
        int n = random.nextInt(random.nextInt(8) == 0 ? 13 : 8);
        BigInteger[] parts = m.odds(m.state, n);
        fraction(" friday", x.friday(n), 1, parts[m.desks.size()], Model.whole(n));
        int i = desk();
        fraction(" odds", x.odds(n, i), 1, parts[i], Model.whole(n));
        int b = 1 + random.nextInt(99);
        int a = random.nextInt(b + 1);
        int taken = 0;
        BigInteger part = BigInteger.ZERO;
        while (part.multiply(BigInteger.valueOf(b)).compareTo(Model.whole(n).multiply(BigInteger.valueOf(a))) < 0) {
            int best = -1;
            for (int k = 0; k < m.desks.size(); k++) {
                if ((taken >> k & 1) == 0 && (best < 0 || parts[k].compareTo(parts[best]) > 0)) {
                    best = k;
                }
            }
            taken |= 1 << best;
            part = part.add(parts[best]);
        }
        c.both(x, said + " ask", x.ask(n, a, b), Integer.bitCount(taken), taken);
        int best = 0;
        BigInteger bestPart = BigInteger.valueOf(-1);
        for (int rule = 0; rule < 3; rule++) {
            BigInteger back = m.odds(m.anew(i, rule), n)[m.desks.size()];
            if (back.compareTo(bestPart) > 0) {
                best = rule;
                bestPart = back;
            }
        }
        fraction(" rule", x.rule(i, n), best, bestPart, Model.whole(n));
    }

    private void fraction(String call, int answer, int due, BigInteger part, BigInteger whole) {
        BigInteger divisor = part.gcd(whole);
        c.odds(x, said + call, answer, due, part.divide(divisor).longValueExact(), whole.divide(divisor).longValueExact());
    }

    private void howMuch() {
        List<Integer> open = m.open(511);
        Collections.shuffle(open, random);
        List<Integer> order = new ArrayList<>(open.subList(0, random.nextInt(open.size() + 1)));
        Check.fill(x, 0, ints(order));
        c.due(said + " order", x.order(0), m.bring(order));
        int bestSum = 0;
        for (int sum = 1; sum <= 60; sum++) {
            if (m.bring(order, m.state.law, sum, m.state.linked) > m.bring(order, m.state.law, bestSum, m.state.linked)) {
                bestSum = sum;
            }
        }
        c.both(x, said + " best", x.best(0), bestSum, m.bring(order, m.state.law, bestSum, m.state.linked));
        if (order.size() < open.size()) {
            int i = open.get(order.size());
            int with = m.bring(order, m.state.law, m.state.sum, m.state.linked, i);
            c.tells(x, said + " first", x.first(i, 0), with - m.bring(order));
        }
        orders();
        List<Integer> prices = new ArrayList<>();
        for (int k = random.nextInt(8); k > 0; k--) {
            prices.add(random.nextInt(20));
        }
        Check.fill(x, 0, ints(prices));
        int bought = m.buy(prices);
        c.both(x, said + " buy", x.buy(0), Model.price(prices, bought), bought);
        int price = random.nextInt(200);
        c.due(said + " fill", x.fill(price), Math.max(0, price - m.coins() - m.bring(m.open(511))));
        int v = random.nextInt(30);
        List<TreeSet<Integer>> ways = m.ways(v);
        int never = ways.isEmpty() ? 0 : 511;
        for (int i = 0; i < 9; i++) {
            int k = i;
            if (!m.state.crossed(i) || ways.stream().anyMatch(way -> way.contains(k))) {
                never &= ~(1 << i);
            }
        }
        c.both(x, said + " nothing", x.nothing(v), ways.size(), never);
        int i = desk();
        if (m.state.crossed(i) && !ways.isEmpty()) {
            int without = (int) ways.stream().filter(way -> !way.contains(i)).count();
            fraction(" gaveNone", x.gaveNone(i, v), without, BigInteger.valueOf(without), BigInteger.valueOf(ways.size()));
        } else {
            c.due(said + " gaveNone", x.gaveNone(i, v), m.state.crossed(i) ? EnvelopeCard.FINDING : EnvelopeCard.STATE);
        }
    }

    private void orders() {
        int set = random.nextInt(1 << m.desks.size());
        List<Integer> open = m.open(set);
        if (open.size() > 6) {
            c.due(said + " spans", x.spans(set), EnvelopeCard.SPENT);
            return;
        }
        int least = Integer.MAX_VALUE;
        List<Integer> best = null;
        for (List<Integer> order : Model.orders(open)) {
            int brought = m.bring(order);
            least = Math.min(least, brought);
            if (best == null || brought > m.bring(best)) {
                best = order;
            }
        }
        c.both(x, said + " spans", x.spans(set), least, m.bring(best));
        c.due(said + " most", x.most(set, 2), m.bring(best));
        for (int k = 0; k < best.size(); k++) {
            c.tells(x, said + " at", x.at(2, k), best.get(k));
        }
        c.due(said + " at", x.at(2, best.size()), EnvelopeCard.FINDING);
    }

    private void cards() {
        List<Integer> names = new ArrayList<>();
        for (int k = random.nextInt(7); k > 0; k--) {
            names.add(1 + random.nextInt(12));
        }
        Check.fill(x, 1, ints(names));
        int w = 1 + random.nextInt(20);
        int h = 1 + random.nextInt(4);
        int[] fits = Model.fits(names, w, h);
        c.both(x, said + " fits", x.fits(w, h, 1), fits[0], fits[1]);
        int set = Model.room(names, w, h);
        c.both(x, said + " room", x.room(w, h, 1), Integer.bitCount(set), set);
        int i = desk();
        int v = random.nextInt(10);
        c.due(said + " starts", x.starts(i, v), m.state.crossed(i) ? EnvelopeCard.STATE : m.starts(i, v));
    }

    private void years() {
        for (int k = random.nextInt(4); k > 0 && m.years.size() < 40; k--) {
            int i = desk();
            int[] party = m.party(i, m.state.law);
            c.due(said + " year", x.year(i), Model.sum(party));
            m.years.add(party);
        }
        int n = m.years.size() - random.nextInt(Math.min(3, m.years.size() + 1));
        c.due(said + " forget", x.forget(n), m.years.size() - n);
        m.years.subList(n, m.years.size()).clear();
        for (Model.Desk d : m.desks) {
            c.tells(x, said + " balance", x.balance(d.number), m.balance(d.number, m.years));
        }
        List<Integer> leavers = new ArrayList<>();
        for (int k = random.nextInt(21); k > 0; k--) {
            leavers.add(desk());
        }
        Check.fill(x, 3, ints(leavers));
        int best = 0;
        for (int law = 1; law < 3; law++) {
            if (m.apart(leavers, law) < m.apart(leavers, best)) {
                best = law;
            }
        }
        c.both(x, said + " even", x.even(3), best, m.apart(leavers, best));
    }

    private void marks() {
        for (Model.Desk d : m.desks) {
            int i = d.number;
            int sides = (i > 0 ? 1 : 0) + (i < m.desks.size() - 1 ? 1 : 0);
            int refused = EnvelopeCard.FINDING;
            c.due(said + " mark 1", x.mark(i, 1), d.letter == 'q' ? sides : refused);
            c.due(said + " mark 2", x.mark(i, 2), d.letter == 'p' ? 12 / d.first : refused);
            int away = d.away(m.state.hour) ? 1 : 0;
            c.due(said + " mark 3", x.mark(i, 3), d.letter == 'a' ? away : refused);
            c.due(said + " mark 4", x.mark(i, 4), d.copies() ? m.word(d, m.state.words()) : refused);
            int would = m.would(d, m.state.gifts(), m.state.law, m.state.sum, m.state.linked);
            c.due(said + " mark 5", x.mark(i, 5), d.letter == 'e' ? would : refused);
        }
    }

    private static int[] ints(List<Integer> list) {
        return list.stream().mapToInt(i -> i).toArray();
    }
}
