import java.math.BigInteger;
import java.util.ArrayDeque;
import java.util.ArrayList;
import java.util.Arrays;
import java.util.Collections;
import java.util.HashMap;
import java.util.List;
import java.util.Map;
import java.util.regex.Matcher;
import java.util.regex.Pattern;

/** The document once more, by lists and by trying all, to hold the class against. */
final class Model {
    private static final Pattern TOKEN = Pattern.compile(" *([a-z]+|[0-9]+|;|.|\\s)", Pattern.DOTALL);

    private record Bridge(int from, int to, int kind, int n) { }

    private record Noted(int bridge, int month, List<Integer> ahead, List<Integer> behind) { }

    private record Before(List<Bridge> bridges, int month) { }

    private record State(List<Bridge> bridges, int month, List<List<Integer>> rows, List<Noted> noted, List<Before> past) { }

    private record Way(int toll, List<Integer> taken, List<Integer> name, int place) { }

    private State now = fresh(0);
    private final State[] images = new State[2];
    private final StringBuilder text = new StringBuilder();
    private BigInteger above = BigInteger.ZERO;
    private BigInteger below = BigInteger.ONE;
    private final int[] refused = new int[3];

    private static State fresh(int month) {
        List<List<Integer>> rows = new ArrayList<>();
        for (int row = 0; row < 4; row++) {
            rows.add(new ArrayList<>());
        }
        return new State(new ArrayList<>(), month, rows, new ArrayList<>(), new ArrayList<>());
    }

    private static State copy(State s) {
        List<List<Integer>> rows = new ArrayList<>();
        for (List<Integer> row : s.rows) {
            rows.add(new ArrayList<>(row));
        }
        return new State(new ArrayList<>(s.bridges), s.month, rows, new ArrayList<>(s.noted), new ArrayList<>(s.past));
    }

    private int refuse(int reason, int answer) {
        refused[reason]++;
        return answer;
    }

    private int bad(int answer) {
        return refuse(0, answer);
    }

    private static boolean in(int v, int least, int most) {
        return least <= v && v <= most;
    }

    private boolean bridgeIs(int k) {
        return in(k, 0, now.bridges.size() - 1);
    }

    private void setMonth(int month, List<Before> past) {
        now = new State(now.bridges, month, now.rows, now.noted, past);
    }

    private List<Before> pastWithNow() {
        List<Before> past = new ArrayList<>(now.past);
        past.add(new Before(new ArrayList<>(now.bridges), now.month));
        return past.size() > 8 ? new ArrayList<>(past.subList(1, 9)) : past;
    }

    static List<Integer> ruled(List<Integer> name, int kind, int n, int month) {
        List<Integer> out = new ArrayList<>(name);
        boolean drops = kind == 2 || kind == 5 && (month == 0 || month == 4 || month == 8);
        if (kind == 1 || kind == 4) {
            if (out.size() == 12) {
                out.remove(11);
            }
            out.add(n);
        }
        if (kind == 4) {
            if (out.size() == 12) {
                out.remove(11);
            }
            out.add(0, out.get(0));
        }
        if (kind == 3) {
            Collections.reverse(out);
        }
        if (drops) {
            for (int k = 0; k < n % 3 + 1 && !out.isEmpty(); k++) {
                out.remove(out.size() - 1);
            }
        } else if (kind == 5) {
            out.replaceAll(s -> (s + n) % 16);
        }
        return out;
    }

    private List<Integer> under(int bridge, List<Integer> name, int month) {
        Bridge b = now.bridges.get(bridge);
        return ruled(name, b.kind, b.n, month);
    }

    private List<Integer> under(int bridge, List<Integer> name) {
        return under(bridge, name, now.month);
    }

    long river(int month) {
        if (!in(month, 0, 11)) {
            return bad(-2);
        }
        int were = now.bridges.size();
        now = fresh(month);
        return were;
    }

    long bridge(int a, int b, int kind, int n) {
        if (!in(a, 0, 5) || !in(b, 0, 5) || a == b || !in(kind, 0, 5) || !in(n, 0, 15)) {
            return bad(-2);
        }
        if (now.bridges.size() == 8) {
            return refuse(2, -4);
        }
        now.bridges.add(new Bridge(a, b, kind, n));
        now.past.clear();
        return now.bridges.size() - 1;
    }

    long rule(int bridge, int kind, int n) {
        if (!bridgeIs(bridge) || !in(kind, 0, 5) || !in(n, 0, 15)) {
            return bad(-2);
        }
        setMonth(now.month, pastWithNow());
        Bridge b = now.bridges.get(bridge);
        now.bridges.set(bridge, new Bridge(b.from, b.to, kind, n));
        return 16 * b.kind + b.n;
    }

    long month(int n) {
        if (!in(n, 1, 11)) {
            return bad(-2);
        }
        setMonth((now.month + n) % 12, pastWithNow());
        return now.month;
    }

    long undo() {
        if (now.past.isEmpty()) {
            return refuse(1, -3);
        }
        List<Before> past = new ArrayList<>(now.past);
        Before last = past.remove(past.size() - 1);
        now = new State(new ArrayList<>(last.bridges), last.month, now.rows, now.noted, past);
        return now.month;
    }

    long say(int row, int s) {
        if (!in(row, 0, 3) || !in(s, 0, 15)) {
            return bad(-2);
        }
        if (now.rows.get(row).size() == 12) {
            return refuse(2, -4);
        }
        now.rows.get(row).add(s);
        return now.rows.get(row).size();
    }

    long hush(int row) {
        if (!in(row, 0, 3)) {
            return bad(-2);
        }
        return now.rows.set(row, new ArrayList<>()).size();
    }

    long type(int c) {
        if (!in(c, 0, 127)) {
            return bad(-2);
        }
        if (text.length() == 150) {
            return refuse(2, -4);
        }
        text.append((char) c);
        return text.length();
    }

    long clear() {
        int had = text.length();
        text.setLength(0);
        return had;
    }

    /** Splits the text first, then looks at each item's tokens by their place in it. */
    long read() {
        List<String> tokens = new ArrayList<>();
        List<Integer> places = new ArrayList<>();
        String all = text.toString();
        int end = all.length();
        while (end > 0 && all.charAt(end - 1) == ' ') {
            end--;
        }
        Matcher m = TOKEN.matcher(all.substring(0, end));
        while (m.find()) {
            tokens.add(m.group(1));
            places.add(m.start(1));
        }
        State got = fresh(0);
        int items = 0;
        int inItem = 0;
        String word = "";
        List<Integer> numbers = new ArrayList<>();
        for (int t = 0; t < tokens.size(); t++) {
            String token = tokens.get(t);
            boolean fits;
            if (inItem == 0) {
                word = token;
                numbers.clear();
                fits = items == 0 ? word.equals("river")
                    : word.equals("row") || word.equals("bridge") && got.bridges.size() < 8;
            } else if (token.equals(";")) {
                int had = numbers.size();
                fits = word.equals("river") ? had == 1 : word.equals("bridge") ? had == 4 : had > 0;
            } else {
                fits = token.matches("[0-9][0-9]?") && numberFits(word, numbers, Integer.parseInt(token));
            }
            if (!fits) {
                return -10 - places.get(t);
            }
            inItem++;
            if (token.matches("[0-9]+")) {
                numbers.add(Integer.parseInt(token));
            }
            if (token.equals(";")) {
                got = put(got, word, numbers);
                items++;
                inItem = 0;
            }
        }
        if (inItem > 0 || items == 0) {
            return -10 - all.length();
        }
        now = got;
        return items;
    }

    private static boolean numberFits(String word, List<Integer> before, int value) {
        int k = before.size();
        if (word.equals("river")) {
            return k == 0 && value < 12;
        }
        if (word.equals("row")) {
            return k == 0 ? value < 4 : k < 13 && value < 16;
        }
        int[] limits = {6, 6, 6, 16};
        return k < 4 && value < limits[k] && !(k == 1 && value == before.get(0));
    }

    private static State put(State s, String word, List<Integer> v) {
        if (word.equals("river")) {
            return fresh(v.get(0));
        }
        if (word.equals("row")) {
            s.rows.set(v.get(0), new ArrayList<>(v.subList(1, v.size())));
        } else {
            s.bridges.add(new Bridge(v.get(0), v.get(1), v.get(2), v.get(3)));
        }
        return s;
    }

    long of(int bridge, int what) {
        if (!bridgeIs(bridge) || !in(what, 0, 3)) {
            return bad(-2);
        }
        Bridge b = now.bridges.get(bridge);
        return new int[] {b.from, b.to, b.kind, b.n}[what];
    }

    private static int pick(List<Integer> list, int i) {
        return i == -1 ? list.size() : i < list.size() ? list.get(i) : -5;
    }

    long at(int row, int i) {
        return !in(row, 0, 3) || i < -1 ? bad(-10) : pick(now.rows.get(row), i);
    }

    long called(int row, int a, int b, int i) {
        if (!in(row, 0, 3) || !bridgeIs(a) || !bridgeIs(b) || i < -1) {
            return bad(-10);
        }
        List<Integer> name = now.rows.get(row);
        for (int k = a; k <= b; k++) {
            name = under(k, name);
        }
        return pick(name, i);
    }

    long nothing(int row, int a) {
        if (!in(row, 0, 3) || !bridgeIs(a)) {
            return bad(-2);
        }
        List<Integer> name = now.rows.get(row);
        for (int k = a; k < now.bridges.size(); k++) {
            name = under(k, name);
            if (name.isEmpty()) {
                return k;
            }
        }
        return -1;
    }

    long boat(int row, int says, int a, int b, int what) {
        if (!in(row, 0, 3) || !in(says, 0, 65535) || !bridgeIs(a) || !bridgeIs(b) || !in(what, 0, 1)) {
            return bad(-10);
        }
        List<Integer> name = now.rows.get(row);
        int toll = 0;
        for (int k = a; k <= b; k++) {
            name = under(k, name);
            for (int s : name) {
                if ((says & 1 << s) == 0) {
                    return what == 0 ? k : toll;
                }
            }
            toll += name.size();
        }
        return what == 0 ? -1 : toll;
    }

    /** All that can be gone from a place, those of fewer bridges first. */
    private List<Way> gone(int row, int from) {
        List<Way> all = new ArrayList<>();
        all.add(new Way(0, List.of(), now.rows.get(row), from));
        for (int at = 0; at < all.size(); at++) {
            Way w = all.get(at);
            for (int k = 0; k < now.bridges.size() && w.taken.size() < 6; k++) {
                if (now.bridges.get(k).from == w.place && !w.taken.contains(k)) {
                    List<Integer> taken = new ArrayList<>(w.taken);
                    taken.add(k);
                    List<Integer> name = under(k, w.name);
                    all.add(new Way(w.toll + name.size(), taken, name, now.bridges.get(k).to));
                }
            }
        }
        return all;
    }

    private static int compare(Way a, Way b) {
        if (a.toll != b.toll) {
            return a.toll - b.toll;
        }
        if (a.taken.size() != b.taken.size()) {
            return a.taken.size() - b.taken.size();
        }
        return a.taken.toString().compareTo(b.taken.toString());
    }

    private List<Way> sortedWays(int row, int from, int to) {
        List<Way> ways = gone(row, from);
        ways.removeIf(w -> w.place != to);
        ways.sort(Model::compare);
        return ways;
    }

    long way(int row, int from, int to, int i) {
        if (!in(row, 0, 3) || !in(from, 0, 5) || !in(to, 0, 5) || i < -1) {
            return bad(-10);
        }
        List<Way> ways = sortedWays(row, from, to);
        if (ways.isEmpty()) {
            return -1;
        }
        return i == -1 ? ways.get(0).toll : pick(ways.get(0).taken, i);
    }

    long ways(int row, int from, int to, int what) {
        if (!in(row, 0, 3) || !in(from, 0, 5) || !in(to, 0, 5) || !in(what, 0, 1)) {
            return bad(-2);
        }
        List<Way> ways = sortedWays(row, from, to);
        if (what == 0) {
            return ways.size();
        }
        return ways.isEmpty() ? -1 : ways.get(0).taken.size();
    }

    long curse(int row, int q, int from) {
        if (!in(row, 0, 3) || !in(q, 0, 3) || !in(from, 0, 5)) {
            return bad(-2);
        }
        for (Way w : gone(row, from)) {
            if (Collections.indexOfSubList(w.name, now.rows.get(q)) >= 0) {
                return w.taken.size();
            }
        }
        return -1;
    }

    long above(int bridge, int row, int what) {
        if (!bridgeIs(bridge) || !in(row, 0, 3) || !in(what, 0, 1)) {
            return bad(-10);
        }
        List<Integer> codes = new ArrayList<>();
        for (int a = -1; a < 16; a++) {
            for (int b = -1; b < (a < 0 ? 0 : 16); b++) {
                List<Integer> name = a < 0 ? List.of() : b < 0 ? List.of(a) : List.of(a, b);
                if (under(bridge, name).equals(now.rows.get(row))) {
                    codes.add(a < 0 ? 0 : b < 0 ? a + 1 : 17 * (a + 1) + b + 1);
                }
            }
        }
        return what == 0 ? codes.size() : codes.isEmpty() ? -1 : Collections.min(codes);
    }

    long note(int bridge, int row, int q) {
        if (!bridgeIs(bridge) || !in(row, 0, 3) || !in(q, 0, 3)) {
            return bad(-2);
        }
        if (now.noted.size() == 8) {
            return refuse(2, -4);
        }
        now.noted.add(new Noted(bridge, now.month, List.copyOf(now.rows.get(row)), List.copyOf(now.rows.get(q))));
        return now.noted.size();
    }

    long forget() {
        int were = now.noted.size();
        now.noted.clear();
        return were;
    }

    private List<Integer> fitting(int bridge) {
        List<Integer> pairs = new ArrayList<>();
        for (int kind = 0; kind < 6; kind++) {
            for (int n = 0; n < 16; n++) {
                boolean all = true;
                for (Noted seen : now.noted) {
                    all &= seen.bridge != bridge || ruled(seen.ahead, kind, n, seen.month).equals(seen.behind);
                }
                if (all) {
                    pairs.add(16 * kind + n);
                }
            }
        }
        return pairs;
    }

    long fits(int bridge, int what) {
        if (!bridgeIs(bridge) || !in(what, 0, 1)) {
            return bad(-10);
        }
        List<Integer> pairs = fitting(bridge);
        return what == 0 ? pairs.size() : pairs.isEmpty() ? -1 : pairs.get(0);
    }

    long tries(int bridge) {
        if (!bridgeIs(bridge)) {
            return bad(-2);
        }
        List<Integer> pairs = fitting(bridge);
        List<Integer> most = new ArrayList<>();
        for (List<Integer> row : now.rows) {
            Map<List<Integer>, Integer> groups = new HashMap<>();
            for (int pair : pairs) {
                groups.merge(ruled(row, pair / 16, pair % 16, now.month), 1, Integer::sum);
            }
            most.add(groups.isEmpty() ? 0 : Collections.max(groups.values()));
        }
        return pairs.isEmpty() ? -1 : most.indexOf(Collections.min(most));
    }

    long renamed(int row, int bridge) {
        if (!in(row, 0, 3) || !bridgeIs(bridge)) {
            return bad(-2);
        }
        List<Integer> name = now.rows.get(row);
        int month = now.month;
        for (int months = 1; months <= 60; months++) {
            name = under(bridge, name, month);
            month = month == 11 ? 0 : month + 1;
            if (name.equals(now.rows.get(row))) {
                return months;
            }
        }
        return -1;
    }

    /** By all ways to say each syllable once or twice. */
    long stammer(int row, int bridge, int c, int k) {
        if (!in(row, 0, 3) || !bridgeIs(bridge) || !in(c, 0, 10) || !in(k, 0, 24)) {
            return bad(-2);
        }
        int said = under(bridge, now.rows.get(row)).size();
        BigInteger sum = BigInteger.ZERO;
        for (int twice = 0; twice < 1 << said; twice++) {
            int more = Integer.bitCount(twice);
            if (said + more == k) {
                sum = sum.add(BigInteger.valueOf(c).pow(more).multiply(BigInteger.valueOf(10 - c).pow(said - more)));
            }
        }
        BigInteger all = BigInteger.TEN.pow(said);
        BigInteger common = sum.gcd(all);
        above = sum.divide(common);
        below = all.divide(common);
        return 1;
    }

    private int boatsBy(List<Integer> order, int row, int seed, int n) {
        BigInteger x = BigInteger.valueOf(seed);
        int many = 0;
        for (int k = 0; k < n; k++) {
            x = x.multiply(BigInteger.valueOf(1103515245)).add(BigInteger.valueOf(12345)).mod(BigInteger.TWO.pow(31));
            List<Integer> name = now.rows.get(row);
            boolean all = true;
            for (int bridge : order) {
                name = under(bridge, name);
                for (int s : name) {
                    all &= x.testBit(15 + s);
                }
            }
            many += all ? 1 : 0;
        }
        return many;
    }

    private List<Integer> order() {
        List<Integer> order = new ArrayList<>();
        for (int k = 0; k < now.bridges.size(); k++) {
            order.add(k);
        }
        return order;
    }

    long boats(int row, int seed, int n) {
        if (!in(row, 0, 3) || !in(seed, 0, 999999) || !in(n, 0, 60)) {
            return bad(-2);
        }
        return boatsBy(order(), row, seed, n);
    }

    long flood(int row, int seed, int n, int a, int b) {
        if (!in(row, 0, 3) || !in(seed, 0, 999999) || !in(n, 0, 60) || !bridgeIs(a) || !bridgeIs(b)) {
            return bad(-100);
        }
        List<Integer> order = order();
        Collections.swap(order, a, b);
        return boatsBy(order, row, seed, n) - boatsBy(order(), row, seed, n);
    }

    long part(int what) {
        return what == 0 ? above.longValueExact() : what == 1 ? below.longValueExact() : bad(-2);
    }

    long image(int i) {
        if (!in(i, 0, 1)) {
            return bad(-2);
        }
        images[i] = copy(now);
        return 1;
    }

    long from(int i) {
        if (!in(i, 0, 1)) {
            return bad(-2);
        }
        if (images[i] == null) {
            return refuse(1, -3);
        }
        now = copy(images[i]);
        return 1;
    }

    long status(int what) {
        return in(what, 0, 2) ? refused[what] : bad(-1);
    }

    private int[] counts() {
        return new int[] {now.bridges.size(), now.month, now.noted.size(), now.past.size(), text.length()};
    }

    long count(int what) {
        return in(what, 0, 4) ? counts()[what] : bad(-2);
    }

    long digest() {
        List<Long> values = new ArrayList<>();
        Arrays.stream(counts()).forEach(v -> values.add((long) v));
        for (Bridge b : now.bridges) {
            values.addAll(List.of((long) b.from, (long) b.to, (long) b.kind, (long) b.n));
        }
        ArrayDeque<List<Integer>> names = new ArrayDeque<>(now.rows);
        names.forEach(name -> addName(values, name));
        for (Noted seen : now.noted) {
            values.addAll(List.of((long) seen.bridge, (long) seen.month));
            addName(values, seen.ahead);
            addName(values, seen.behind);
        }
        values.add(above.longValueExact());
        values.add(below.longValueExact());
        long h = 1009;
        for (long v : values) {
            h = 31 * h + v;
        }
        return h;
    }

    private static void addName(List<Long> values, List<Integer> name) {
        values.add((long) name.size());
        name.forEach(s -> values.add((long) s));
    }
}
