import java.math.BigInteger;
import java.util.ArrayList;
import java.util.Arrays;
import java.util.Collections;
import java.util.Comparator;
import java.util.HashMap;
import java.util.List;
import java.util.Map;
import java.util.TreeMap;
import java.util.TreeSet;

/**
 * A second reading of the document, by other means than the class's: lists, sets, trees of all cases
 * with exact fractions. It answers calls whose numbers are as told; refusals are tested elsewhere.
 */
final class Model {
    static final int NONE = -9;

    /** One DESK. */
    static final class Desk {
        char letter;
        int number, tie, pay, word, first = NONE, last = NONE;

        boolean away(int hour) {
            return letter == 'a' && first <= hour && hour <= last;
        }

        boolean copies() {
            return letter == 'c' || letter == 'e';
        }
    }

    /** What one put in and wrote, and when. */
    record Entry(int desk, int hour, int gift, int word) { }

    /** A state of a ROUND. */
    static final class State {
        int start, rule, at, hour, law, sum;
        boolean back, linked;
        List<Entry> entries = new ArrayList<>();

        State copy() {
            State s = new State();
            s.start = start;
            s.rule = rule;
            s.at = at;
            s.hour = hour;
            s.law = law;
            s.sum = sum;
            s.back = back;
            s.linked = linked;
            s.entries = new ArrayList<>(entries);
            return s;
        }

        boolean crossed(int i) {
            return entries.stream().anyMatch(e -> e.desk == i);
        }

        List<Integer> gifts() {
            List<Integer> gifts = new ArrayList<>();
            entries.forEach(e -> gifts.add(e.gift));
            return gifts;
        }

        List<Integer> words() {
            List<Integer> words = new ArrayList<>();
            entries.forEach(e -> words.add(e.word));
            return words;
        }
    }

    List<Desk> desks = new ArrayList<>();
    State state = new State();
    final State[] kept = new State[3];
    final List<int[]> years = new ArrayList<>();

    void office(String text) {
        desks = new ArrayList<>();
        String rest = text.replace(" ", "");
        while (!rest.isEmpty()) {
            Desk d = new Desk();
            d.letter = rest.charAt(0);
            d.number = desks.size();
            d.tie = rest.charAt(1) - '0';
            d.pay = rest.charAt(2) - '0';
            d.word = rest.charAt(3) - '0';
            int length = d.letter == 'p' ? 5 : d.letter == 'a' ? 6 : 4;
            if (length > 4) {
                d.first = rest.charAt(4) - '0';
            }
            if (length > 5) {
                d.last = rest.charAt(5) - '0';
            }
            desks.add(d);
            rest = rest.substring(length);
        }
        state = new State();
        Arrays.fill(kept, null);
        years.clear();
    }

    void begin(int i, int rule) {
        State s = new State();
        s.start = i;
        s.at = i;
        s.rule = rule;
        s.law = state.law;
        s.sum = state.sum;
        s.linked = state.linked;
        state = s;
    }

    // what one gives and writes

    int own(Desk d, List<Integer> gifts, int law) {
        if (law == 0) {
            return d.tie;
        }
        if (law == 1) {
            return d.tie * d.pay / 9;
        }
        if (gifts.isEmpty()) {
            return d.tie;
        }
        int mean = gifts.stream().mapToInt(g -> g).sum() / gifts.size();
        return (d.tie + mean) / 2;
    }

    int would(Desk d, List<Integer> gifts, int law, int sum, boolean linked) {
        int gift = own(d, gifts, law);
        if (sum > 0 && gift * 2 >= sum) {
            gift = sum;
        }
        if (linked) {
            TreeSet<Integer> above = new TreeSet<>(gifts);
            Integer least = above.higher(0);
            if (least != null && gift < least) {
                gift = least;
            }
        }
        return gift;
    }

    int gives(Desk d, List<Integer> gifts, int law, int sum, boolean linked) {
        if (d.letter == 'e') {
            return linked ? 1 : 0;
        }
        return would(d, gifts, law, sum, linked);
    }

    int word(Desk d, List<Integer> words) {
        return d.copies() && !words.isEmpty() ? oftenest(words) : d.word;
    }

    static int oftenest(List<Integer> words) {
        TreeMap<Integer, Integer> times = new TreeMap<>();
        words.forEach(w -> times.merge(w, 1, Integer::sum));
        int most = Collections.max(times.values());
        for (Map.Entry<Integer, Integer> e : times.entrySet()) {
            if (e.getValue() == most) {
                return e.getKey();
            }
        }
        throw new IllegalStateException();
    }

    // the way of THE ENVELOPE

    /** The NEXT; -1 it stays, -2 it is BACK. */
    int nextOf(State s, int from) {
        List<Desk> open = new ArrayList<>();
        for (Desk d : desks) {
            if (d.number != from && !s.crossed(d.number)) {
                open.add(d);
            }
        }
        if (open.isEmpty()) {
            return -2;
        }
        open.removeIf(d -> d.away(s.hour + 1));
        if (open.isEmpty()) {
            return -1;
        }
        if (s.rule == 0) {
            int i = (from + 1) % desks.size();
            while (!open.contains(desks.get(i))) {
                i = (i + 1) % desks.size();
            }
            return i;
        }
        Comparator<Desk> far = Comparator.comparingInt(d -> Math.abs(d.number - from));
        if (s.rule == 2) {
            far = far.reversed();
        }
        return Collections.min(open, far.thenComparing(d -> d.number)).number;
    }

    /** One HOUR of it: the states that can be behind it, each with how many of 12 LOTS lead to it. */
    Map<State, Integer> behind(State before) {
        State s = before.copy();
        Map<State, Integer> all = new HashMap<>();
        if (s.back) {
            s.hour++;
            all.put(s, 12);
            return all;
        }
        while (true) {
            Desk d = desks.get(s.at);
            if (d.away(s.hour)) {
                break;
            }
            if (!s.crossed(s.at)) {
                int gift = gives(d, s.gifts(), s.law, s.sum, s.linked);
                s.entries.add(new Entry(s.at, s.hour, gift, word(d, s.words())));
            }
            int next = nextOf(s, s.at);
            if (next == -1) {
                break;
            }
            if (d.letter == 'p') {
                State lies = s.copy();
                lies.hour++;
                all.put(lies, 12 - d.first);
            }
            if (next == -2) {
                s.back = true;
                s.at = s.start;
            } else {
                s.at = next;
            }
            if (d.letter == 'p') {
                s.hour++;
                all.put(s, d.first);
                return all;
            }
            if (s.back || d.letter != 'q') {
                break;
            }
        }
        s.hour++;
        all.put(s, 12);
        return all;
    }

    void go(int n, int seed) {
        long lot = seed;
        for (int k = 0; k < n; k++) {
            Map<State, Integer> all = behind(state);
            if (all.size() == 1) {
                state = all.keySet().iterator().next();
                continue;
            }
            lot = lot * 48271 % 2147483647;
            int heap = desks.get(state.back ? 0 : heaped(state)).first;
            boolean passes = lot % 12 < heap;
            for (State s : all.keySet()) {
                boolean lies = !s.back && desks.get(s.at).letter == 'p' && s.at == heaped(state);
                if (lies != passes) {
                    state = s;
                    break;
                }
            }
        }
    }

    /** At which HEAPED one it lies in this HOUR, being passed there by QUICK ones or not. */
    private int heaped(State before) {
        State s = before.copy();
        while (desks.get(s.at).letter == 'q') {
            if (!s.crossed(s.at)) {
                s.entries.add(new Entry(s.at, s.hour, 0, 0));
            }
            s.at = nextOf(s, s.at);
        }
        return s.at;
    }

    /** Odds behind n HOURS: at each DESK, and of its being BACK (the last number). */
    BigInteger[] odds(State s, int n) {
        BigInteger[] parts = new BigInteger[desks.size() + 1];
        Arrays.fill(parts, BigInteger.ZERO);
        spread(s, n, BigInteger.ONE, parts);
        return parts;
    }

    private void spread(State s, int n, BigInteger part, BigInteger[] parts) {
        if (n == 0) {
            parts[s.at] = parts[s.at].add(part);
            if (s.back) {
                parts[desks.size()] = parts[desks.size()].add(part);
            }
            return;
        }
        behind(s).forEach((then, lots) -> spread(then, n - 1, part.multiply(BigInteger.valueOf(lots)), parts));
    }

    static BigInteger whole(int n) {
        return BigInteger.valueOf(12).pow(n);
    }

    State anew(int i, int rule) {
        State s = new State();
        s.start = i;
        s.at = i;
        s.rule = rule;
        return s;
    }

    // how much

    int bring(List<Integer> order, int law, int sum, boolean linked, int... ahead) {
        List<Integer> gifts = state.gifts();
        for (int i : ahead) {
            gifts.add(gives(desks.get(i), gifts, law, sum, linked));
        }
        int all = 0;
        for (int i : order) {
            int gift = gives(desks.get(i), gifts, law, sum, linked);
            gifts.add(gift);
            all += gift;
        }
        return all;
    }

    int bring(List<Integer> order) {
        return bring(order, state.law, state.sum, state.linked);
    }

    List<Integer> open(int set) {
        List<Integer> open = new ArrayList<>();
        for (Desk d : desks) {
            if ((set >> d.number & 1) != 0 && !state.crossed(d.number)) {
                open.add(d.number);
            }
        }
        return open;
    }

    static List<List<Integer>> orders(List<Integer> items) {
        List<List<Integer>> all = new ArrayList<>();
        if (items.isEmpty()) {
            all.add(new ArrayList<>());
        }
        for (Integer first : items) {
            List<Integer> others = new ArrayList<>(items);
            others.remove(first);
            for (List<Integer> order : orders(others)) {
                order.add(0, first);
                all.add(order);
            }
        }
        return all;
    }

    int coins() {
        return state.gifts().stream().mapToInt(g -> g).sum();
    }

    /** The set of gifts bought. */
    int buy(List<Integer> prices) {
        int best = 0;
        for (int set = 0; set < 1 << prices.size(); set++) {
            if (price(prices, set) <= coins() && price(prices, set) > price(prices, best)) {
                best = set;
            }
        }
        return best;
    }

    static int price(List<Integer> prices, int set) {
        int sum = 0;
        for (int k = 0; k < prices.size(); k++) {
            sum += (set >> k & 1) * prices.get(k);
        }
        return sum;
    }

    /** The ways in which v comes to be in it: each the set of those who gave. */
    List<TreeSet<Integer>> ways(int v) {
        List<TreeSet<Integer>> all = new ArrayList<>();
        all.add(new TreeSet<>());
        for (Desk d : desks) {
            if (state.crossed(d.number)) {
                for (TreeSet<Integer> way : new ArrayList<>(all)) {
                    TreeSet<Integer> more = new TreeSet<>(way);
                    more.add(d.number);
                    all.add(more);
                }
            }
        }
        all.removeIf(way -> way.stream().mapToInt(i -> desks.get(i).tie).sum() != v);
        return all;
    }

    // cards

    /** How many fit, and lines begun. */
    static int[] fits(List<Integer> names, int w, int h) {
        List<List<Integer>> lines = new ArrayList<>();
        int fit = 0;
        for (int name : names) {
            List<Integer> line = lines.isEmpty() ? null : lines.get(lines.size() - 1);
            if (line != null && line.stream().mapToInt(n -> n).sum() + line.size() + name <= w) {
                line.add(name);
            } else if (name <= w && lines.size() < h) {
                lines.add(new ArrayList<>(List.of(name)));
            } else {
                break;
            }
            fit++;
        }
        return new int[] {fit, lines.size()};
    }

    /** The set of the most that fit. */
    static int room(List<Integer> names, int w, int h) {
        List<Integer> places = new ArrayList<>();
        for (int k = 0; k < names.size(); k++) {
            places.add(k);
        }
        int best = 0;
        for (List<Integer> order : orders(places)) {
            List<Integer> sizes = new ArrayList<>();
            order.forEach(k -> sizes.add(names.get(k)));
            int fit = fits(sizes, w, h)[0];
            int set = 0;
            for (int k = 0; k < fit; k++) {
                set |= 1 << order.get(k);
            }
            if (fit > Integer.bitCount(best) || fit == Integer.bitCount(best) && set < best) {
                best = set;
            }
        }
        return best;
    }

    int starts(int i, int v) {
        List<Integer> words = state.words();
        words.add(v);
        for (int j : open(511)) {
            if (j != i) {
                words.add(word(desks.get(j), words));
            }
        }
        return Collections.frequency(words, v);
    }

    // years

    /** Who left, then what each put in. */
    int[] party(int leaver, int law) {
        int[] party = new int[desks.size() + 1];
        party[0] = leaver;
        List<Integer> gifts = new ArrayList<>();
        for (Desk d : desks) {
            if (d.number != leaver) {
                party[d.number + 1] = gives(d, gifts, law, state.sum, state.linked);
                gifts.add(party[d.number + 1]);
            }
        }
        return party;
    }

    static int sum(int[] party) {
        return Arrays.stream(party).skip(1).sum();
    }

    int balance(int i, List<int[]> parties) {
        int balance = 0;
        for (int[] party : parties) {
            balance += party[0] == i ? sum(party) : -party[i + 1];
        }
        return balance;
    }

    int apart(List<Integer> leavers, int law) {
        List<int[]> parties = new ArrayList<>();
        leavers.forEach(i -> parties.add(party(i, law)));
        TreeSet<Integer> balances = new TreeSet<>();
        desks.forEach(d -> balances.add(balance(d.number, parties)));
        return balances.last() - balances.first();
    }
}
