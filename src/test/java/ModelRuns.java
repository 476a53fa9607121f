import java.util.ArrayList;
import java.util.Arrays;
import java.util.HashMap;
import java.util.HashSet;
import java.util.List;
import java.util.Map;
import java.util.Random;
import java.util.Set;
import java.util.TreeSet;
import java.util.function.IntUnaryOperator;
import java.util.regex.Matcher;
import java.util.regex.Pattern;

/**
 * Long runs of calls, drawn with fixed seeds, on the program and on a second one that was written
 * from the document in another manner (sets, lists, copies); both must always answer alike.
 */
public final class ModelRuns {
    private static final int BEYOND = -1000001, FULL = -1000002, KIND = -1000003, NONE = -1000004,
        STATE = -1000005, MISSING = -1000006, SIZE = -1000007;

    // ---- the second program

    private static final Map<List<Object>, int[]> TABLES = new HashMap<>();

    static class Scribe {
        int kind;
        Set<Integer> cuts = new TreeSet<>(), adds = new TreeSet<>(), when = new TreeSet<>();
        int price = 4, purse = 0;

        Scribe(int kind) { this.kind = kind; }

        Scribe twin() {
            Scribe s = new Scribe(kind);
            s.cuts = new TreeSet<>(cuts);
            s.adds = new TreeSet<>(adds);
            s.when = new TreeSet<>(when);
            s.price = price;
            s.purse = purse;
            return s;
        }

        Set<Integer> as(int k, Set<Integer> said) {
            Set<Integer> out = new TreeSet<>();
            switch (k) {
                case 0 -> {
                    boolean any = false;
                    for (int m : said) {
                        if (!cuts.contains(m)) out.add(m);
                        if (when.contains(m)) any = true;
                    }
                    if (any) out.addAll(adds);
                }
                case 1 -> { for (int m : as(0, said)) out.add(m >= 8 ? m - 4 : m); }
                case 2 -> as(0, said).stream().sorted().limit(4).forEach(out::add);
                case 3 -> { out.addAll(as(1, said)); out.addAll(adds); }
                case 4 -> { out.addAll(as(2, said)); out.add(0); }
                case 5 -> {
                    Set<Integer> even = new TreeSet<>(said);
                    even.removeIf(m -> m % 2 == 1);
                    out.addAll(as(0, even));
                }
                default -> as(2, said).stream().sorted().limit(2).forEach(out::add);
            }
            return out;
        }

        int put(int saying) { return table()[saying]; }

        /** What comes of each SAYING; made once for the same laws, as it takes long. */
        int[] table() {
            List<Object> laws = List.of(kind, bits(cuts), bits(adds), bits(when));
            return TABLES.computeIfAbsent(laws, l -> {
                int[] t = new int[4096];
                for (int s = 0; s < 4096; s++) t[s] = bits(as(kind, set(s)));
                return t;
            });
        }
    }

    static class Soul {
        int truth = 0, beliefs = 0, scribe, pence = 100;
        boolean lettered = false;

        Soul(int scribe) { this.scribe = scribe; }

        Soul twin() {
            Soul s = new Soul(scribe);
            s.truth = truth;
            s.beliefs = beliefs;
            s.pence = pence;
            s.lettered = lettered;
            return s;
        }
    }

    static Set<Integer> set(int bits) {
        Set<Integer> s = new TreeSet<>();
        for (int m = 0; m < 32; m++) if ((bits >> m & 1) == 1) s.add(m);
        return s;
    }

    static int bits(Set<Integer> set) {
        int b = 0;
        for (int m : set) b |= 1 << m;
        return b;
    }

    static class Place {
        List<Scribe> scribes = new ArrayList<>();
        List<Soul> souls = new ArrayList<>();
        Set<Integer> ties = new TreeSet<>();   // 10 * lesser + other
        int year = 0, sent = 0, z = 1, fees = 0;
        Integer[] spots = new Integer[10];

        Place twin() {
            Place p = new Place();
            for (Scribe s : scribes) p.scribes.add(s.twin());
            for (Soul s : souls) p.souls.add(s.twin());
            p.ties = new TreeSet<>(ties);
            p.year = year;
            p.sent = sent;
            p.z = z;
            p.spots = spots.clone();
            return p;
        }

        int through(Soul s, int saying) { return s.lettered ? saying : scribes.get(s.scribe).put(saying); }

        boolean broke(Soul s) { return !s.lettered && s.pence < scribes.get(s.scribe).price; }

        int letter(int a, int b, int saying) {
            Soul from = souls.get(a), to = souls.get(b);
            if (broke(from) || broke(to)) return -1;
            for (Soul s : List.of(from, to)) {
                if (s.lettered) continue;
                s.pence -= scribes.get(s.scribe).price;
                scribes.get(s.scribe).purse += scribes.get(s.scribe).price;
                fees++;
            }
            int read = through(to, through(from, saying));
            to.beliefs |= read;
            sent++;
            return read;
        }

        void year() {
            for (int t : ties) {
                int a = t / 10, b = t % 10;
                letter(a, b, souls.get(a).truth | souls.get(a).beliefs);
                letter(b, a, souls.get(b).truth | souls.get(b).beliefs);
            }
            year++;
        }

        Place after(int n) {
            Place p = twin();
            for (int i = 0; i < n; i++) p.year();
            return p;
        }

        int believers(int mark) {
            int set = 0;
            for (int i = 0; i < souls.size(); i++) if ((souls.get(i).beliefs >> mark & 1) == 1) set |= 1 << i;
            return set;
        }

        int anyTruth() { return souls.stream().mapToInt(s -> s.truth).reduce(0, (a, b) -> a | b); }

        int anyBelief() { return souls.stream().mapToInt(s -> s.beliefs).reduce(0, (a, b) -> a | b); }

        int draw() {
            z = (int) (z * 1103515245L + 12345L);
            return z >>> 8;
        }
    }

    static class Model {
        Place p = new Place(), kept = null;
        List<Integer> tape = new ArrayList<>();
        int[][] sheets = new int[4][];
        int[] widths = new int[4];
        int[] tally = new int[7];

        int f(int finding) { tally[BEYOND - finding]++; return finding; }
        boolean w(int i) { return i >= 0 && i < p.scribes.size(); }
        boolean h(int i) { return i >= 0 && i < p.souls.size(); }
        boolean two(int a, int b) { return h(a) && h(b) && a != b; }
        static boolean in(int v, int a, int b) { return v >= a && v <= b; }
        boolean late(int n) { return p.year + n > 999; }

        int call(String name, int[] a) {
            return switch (name) {
                case "writer", "writerOf", "law", "person", "of", "change", "tie", "ties" -> people(name, a);
                case "puts", "says", "read", "send", "years", "now", "who" -> letters(name, a);
                case "ahead", "when", "without", "added", "best", "bridge" -> ahead(name, a);
                case "many", "said", "hands", "likeliest", "near", "honest", "round", "settles" -> said(name, a);
                case "court", "witness", "price", "school", "gossip", "seed" -> court(name, a);
                case "feed", "wipe", "text" -> texts(name, a);
                case "hold", "as", "sheet", "write", "copy", "load", "judge" -> sheets(name, a);
                default -> images(name, a);
            };
        }

        int people(String name, int[] a) {
            switch (name) {
                case "writer":
                    if (!in(a[0], 0, 6)) return f(BEYOND);
                    if (p.scribes.size() == 6) return f(FULL);
                    p.scribes.add(new Scribe(a[0]));
                    return p.scribes.size() - 1;
                case "writerOf":
                    if (!w(a[0]) || !in(a[1], 0, 5)) return f(BEYOND);
                    return law(p.scribes.get(a[0]), a[1]);
                case "law": {
                    if (!w(a[0]) || !in(a[1], 0, 4)) return f(BEYOND);
                    int most = a[1] == 0 ? 6 : a[1] == 4 ? 99 : 4095;
                    if (!in(a[2], 0, most)) return f(BEYOND);
                    Scribe s = p.scribes.get(a[0]);
                    int was = law(s, a[1]);
                    if (a[1] == 0) s.kind = a[2];
                    if (a[1] == 1) s.cuts = set(a[2]);
                    if (a[1] == 2) s.adds = set(a[2]);
                    if (a[1] == 3) s.when = set(a[2]);
                    if (a[1] == 4) s.price = a[2];
                    return was;
                }
                case "person":
                    if (!w(a[0])) return f(BEYOND);
                    if (p.souls.size() == 8) return f(FULL);
                    p.souls.add(new Soul(a[0]));
                    return p.souls.size() - 1;
                case "of":
                    if (!h(a[0]) || !in(a[1], 0, 5)) return f(BEYOND);
                    return of(p.souls.get(a[0]), a[1]);
                case "change": {
                    if (!h(a[0]) || !in(a[1], 0, 4)) return f(BEYOND);
                    int most = new int[] {4095, 4095, p.scribes.size() - 1, 99999, 1}[a[1]];
                    if (!in(a[2], 0, most)) return f(BEYOND);
                    Soul s = p.souls.get(a[0]);
                    int was = of(s, a[1]);
                    if (a[1] == 0) s.truth = a[2];
                    if (a[1] == 1) s.beliefs = a[2];
                    if (a[1] == 2) s.scribe = a[2];
                    if (a[1] == 3) s.pence = a[2];
                    if (a[1] == 4) s.lettered = a[2] == 1;
                    return was;
                }
                case "tie": {
                    if (!two(a[0], a[1])) return f(BEYOND);
                    int t = 10 * Math.min(a[0], a[1]) + Math.max(a[0], a[1]);
                    boolean was = a[2] == 1 ? !p.ties.add(t) : p.ties.remove(t);
                    return was ? 1 : 0;
                }
                default: {
                    if (!h(a[0])) return f(BEYOND);
                    int set = 0;
                    for (int t : p.ties) {
                        if (t / 10 == a[0]) set |= 1 << t % 10;
                        if (t % 10 == a[0]) set |= 1 << t / 10;
                    }
                    return set;
                }
            }
        }

        int law(Scribe s, int what) {
            return switch (what) {
                case 0 -> s.kind;
                case 1 -> bits(s.cuts);
                case 2 -> bits(s.adds);
                case 3 -> bits(s.when);
                case 4 -> s.price;
                default -> s.purse;
            };
        }

        int of(Soul s, int what) {
            return switch (what) {
                case 0 -> s.truth;
                case 1 -> s.beliefs;
                case 2 -> s.scribe;
                case 3 -> s.pence;
                case 4 -> s.lettered ? 1 : 0;
                default -> s.beliefs & ~p.anyTruth();
            };
        }

        int letters(String name, int[] a) {
            switch (name) {
                case "puts":
                    if (!w(a[0]) || !in(a[1], 0, 4095)) return f(BEYOND);
                    return p.scribes.get(a[0]).put(a[1]);
                case "says":
                    if (!h(a[0])) return f(BEYOND);
                    return p.souls.get(a[0]).truth | p.souls.get(a[0]).beliefs;
                case "read":
                    if (!two(a[0], a[1]) || !in(a[2], 0, 4095)) return f(BEYOND);
                    return p.through(p.souls.get(a[1]), p.through(p.souls.get(a[0]), a[2]));
                case "send": {
                    if (!two(a[0], a[1]) || !in(a[2], 0, 4095)) return f(BEYOND);
                    int read = p.letter(a[0], a[1], a[2]);
                    return read == -1 ? f(STATE) : read;
                }
                case "years": {
                    if (!in(a[0], 1, 30)) return f(BEYOND);
                    if (late(a[0])) return f(STATE);
                    int before = p.sent;
                    for (int i = 0; i < a[0]; i++) p.year();
                    return p.sent - before;
                }
                case "now":
                    return switch (a[0]) {
                        case 0 -> p.year;
                        case 1 -> p.sent;
                        case 2 -> p.ties.size();
                        case 3 -> p.anyTruth();
                        case 4 -> p.anyBelief();
                        case 5 -> p.souls.stream().mapToInt(s -> s.pence).sum() + purses();
                        default -> f(BEYOND);
                    };
                default:
                    return in(a[0], 0, 11) ? p.believers(a[0]) : f(BEYOND);
            }
        }

        int purses() { return p.scribes.stream().mapToInt(s -> s.purse).sum(); }

        /** The least number from a to b (b left out) with the greatest worth. */
        static int top(int a, int b, IntUnaryOperator worth) {
            int at = a;
            long most = Long.MIN_VALUE;
            for (int i = a; i < b; i++) {
                int v = worth.applyAsInt(i);
                if (v > most) { most = v; at = i; }
            }
            return at;
        }

        int without(int w, int mark, int n) {
            Place q = p.twin();
            q.scribes.get(w).adds.clear();
            return q.after(n).believers(mark);
        }

        int ahead(String name, int[] a) {
            int n = a[a.length - 1];
            switch (name) {
                case "ahead": {
                    if (!in(a[0], 0, 60) || !in(a[1], 0, 2 + p.souls.size())) return f(BEYOND);
                    if (late(a[0])) return f(STATE);
                    Place q = p.after(a[0]);
                    if (a[1] == 0) return q.sent - p.sent;
                    if (a[1] >= 3) return q.souls.get(a[1] - 3).beliefs;
                    int poor = 0, all = q.souls.isEmpty() ? 0 : 4095;
                    for (int i = 0; i < q.souls.size(); i++) {
                        if (q.broke(q.souls.get(i))) poor |= 1 << i;
                        all &= q.souls.get(i).beliefs;
                    }
                    return a[1] == 1 ? poor : all;
                }
                case "when": {
                    if (!h(a[0]) || !in(a[1], 0, 11)) return f(BEYOND);
                    if (p.year > 939) return f(STATE);
                    Place q = p.twin();
                    for (int y = 0; y <= 60; y++) {
                        if ((q.believers(a[1]) >> a[0] & 1) == 1) return y;
                        q.year();
                    }
                    return f(NONE);
                }
                case "without":
                    if (!w(a[0]) || !in(a[1], 0, 11) || !in(n, 0, 60)) return f(BEYOND);
                    if (late(n)) return f(STATE);
                    return without(a[0], a[1], n);
                case "added": {
                    if (!in(a[0], 0, 11) || !in(n, 0, 60)) return f(BEYOND);
                    if (late(n)) return f(STATE);
                    int now = Integer.bitCount(p.after(n).believers(a[0])), set = 0;
                    for (int w = 0; w < p.scribes.size(); w++) {
                        if (Integer.bitCount(without(w, a[0], n)) < now) set |= 1 << w;
                    }
                    return set;
                }
                case "best":
                    if (!two(a[0], a[1]) || !in(n, 0, 60)) return f(BEYOND);
                    if (late(n)) return f(STATE);
                    return top(0, p.scribes.size(), w -> {
                        Place q = p.twin();
                        q.souls.get(a[0]).scribe = w;
                        return Integer.bitCount(p.souls.get(a[0]).truth & q.after(n).souls.get(a[1]).beliefs);
                    });
                default: {
                    if (!in(a[0], 0, 11) || !in(n, 0, 60)) return f(BEYOND);
                    if (late(n)) return f(STATE);
                    List<Integer> free = new ArrayList<>();
                    for (int i = 0; i < p.souls.size(); i++) {
                        for (int j = i + 1; j < p.souls.size(); j++) {
                            if (!p.ties.contains(10 * i + j)) free.add(10 * i + j);
                        }
                    }
                    if (free.isEmpty()) return f(NONE);
                    return free.get(top(0, free.size(), i -> {
                        Place q = p.twin();
                        q.ties.add(free.get(i));
                        return Integer.bitCount(q.after(n).believers(a[0]));
                    }));
                }
            }
        }

        int ways(int w, int written) {
            return (int) Arrays.stream(p.scribes.get(w).table()).filter(t -> t == written).count();
        }

        int roundOnce(int s) {
            for (Scribe x : p.scribes) s = x.put(s);
            return s;
        }

        int said(String name, int[] a) {
            switch (name) {
                case "many":
                    if (!w(a[0]) || !in(a[1], 0, 4095)) return f(BEYOND);
                    return ways(a[0], a[1]);
                case "said": {
                    if (!w(a[0]) || !in(a[1], 0, 4095) || !in(a[2], 0, 2)) return f(BEYOND);
                    int[] t = p.scribes.get(a[0]).table();
                    List<Integer> all = new ArrayList<>();
                    for (int s = 0; s < 4096; s++) if (t[s] == a[1]) all.add(s);
                    if (all.isEmpty()) return f(NONE);
                    if (a[2] == 0) return all.get(0);
                    Set<Integer> marks = set(all.get(0));
                    for (int s : all) {
                        if (a[2] == 1) marks.retainAll(set(s));
                        else marks.addAll(set(s));
                    }
                    return bits(marks);
                }
                case "hands": {
                    if (!in(a[0], 0, 4095)) return f(BEYOND);
                    int set = 0;
                    for (int w = 0; w < p.scribes.size(); w++) if (ways(w, a[0]) > 0) set |= 1 << w;
                    return set;
                }
                case "likeliest": {
                    if (!in(a[0], 0, 4095)) return f(BEYOND);
                    int w = top(0, p.scribes.size(), i -> ways(i, a[0]));
                    return p.scribes.isEmpty() || ways(w, a[0]) == 0 ? f(NONE) : w;
                }
                case "near": {
                    if (!w(a[0]) || !in(a[1], 0, 4095) || !in(a[2], 0, 4095)) return f(BEYOND);
                    int[] t = p.scribes.get(a[0]).table();
                    int least = 99;
                    for (int s = 0; s < 4096; s++) if (t[s] == a[2]) least = Math.min(least, Integer.bitCount(s ^ a[1]));
                    return least == 99 ? f(NONE) : least;
                }
                case "honest": {
                    if (!w(a[0])) return f(BEYOND);
                    int[] t = p.scribes.get(a[0]).table();
                    int n = 0;
                    for (int s = 0; s < 4096; s++) if (t[s] == s) n++;
                    return n;
                }
                case "round": {
                    if (!in(a[0], 0, 4095) || !in(a[1], 0, 20)) return f(BEYOND);
                    int s = a[0];
                    for (int i = 0; i < a[1]; i++) s = roundOnce(s);
                    return s;
                }
                default: {
                    if (!in(a[0], 0, 4095)) return f(BEYOND);
                    Set<Integer> seen = new HashSet<>();
                    int s = a[0];
                    for (int i = 0; i <= 100; i++) {
                        if (!seen.add(s)) return i;
                        s = roundOnce(s);
                    }
                    return f(NONE);
                }
            }
        }

        int court(String name, int[] a) {
            switch (name) {
                case "court": {
                    if (!w(a[0]) || !w(a[1]) || !in(a[2], 0, 4095)) return f(BEYOND);
                    Set<Integer> was = set(a[2]), is = set(p.scribes.get(a[1]).put(p.scribes.get(a[0]).put(a[2])));
                    int n = 0;
                    for (int m : was) if (!is.contains(m)) n++;
                    for (int m : is) if (!was.contains(m)) n += 100;
                    return n;
                }
                case "witness": {
                    if (!w(a[0])) return f(BEYOND);
                    int[] t = p.scribes.get(a[0]).table();
                    return top(0, p.scribes.size(), r -> {
                        int[] u = p.scribes.get(r).table();
                        int same = 0;
                        for (int s = 0; s < 4096; s++) if (u[t[s]] == s) same++;
                        return same;
                    });
                }
                case "price":
                    if (!w(a[0]) || !in(a[1], 1, 20)) return f(BEYOND);
                    if (late(a[1])) return f(STATE);
                    return top(0, 100, c -> {
                        Place q = p.twin();
                        q.scribes.get(a[0]).price = c;
                        return q.after(a[1]).scribes.get(a[0]).purse;
                    });
                case "school": {
                    if (!in(a[0], 2, 8)) return f(BEYOND);
                    if (p.year == 999) return f(STATE);
                    Place q = p.twin();
                    for (int i = 0; i < q.souls.size(); i++) if (i % a[0] == 0) q.souls.get(i).lettered = true;
                    return p.after(1).fees - q.after(1).fees;
                }
                case "gossip":
                    if (!in(a[0], 1, 12)) return f(BEYOND);
                    if (p.souls.isEmpty()) return f(STATE);
                    for (int i = 0; i < a[0]; i++) {
                        Soul s = p.souls.get(p.draw() % p.souls.size());
                        s.beliefs |= 1 << p.draw() % 12;
                    }
                    return p.anyBelief();
                default: {
                    int was = p.z;
                    p.z = a[0];
                    return was;
                }
            }
        }

        static final Pattern TOKEN = Pattern.compile(" *([a-z]+|[0-9]+|;|[^ ]|$)", Pattern.DOTALL);
        static final List<String> KINDS = List.of("writer", "soft", "form", "poet", "clerk", "deaf", "terse");

        List<String> tokens;
        List<Integer> places;
        int at;

        static final class Fault extends Exception {
            private static final long serialVersionUID = 1;
        }

        int texts(String name, int[] a) {
            if (name.equals("feed")) {
                if (!in(a[1], 1, 4)) return f(BEYOND);
                if (tape.size() + a[1] > 120) return f(FULL);
                for (int i = a[1] - 1; i >= 0; i--) tape.add(a[0] >>> 8 * i & 255);
                return tape.size();
            }
            StringBuilder b = new StringBuilder();
            for (int c : tape) b.append((char) c);
            tape.clear();
            if (name.equals("wipe")) return b.length();
            tokens = new ArrayList<>();
            places = new ArrayList<>();
            at = 0;
            Matcher m = TOKEN.matcher(b);
            int end = 0;
            while (end < b.length() && m.find(end)) {
                tokens.add(m.group(1));
                places.add(m.start(1));
                end = m.end();
            }
            if (tokens.isEmpty() || !tokens.get(tokens.size() - 1).isEmpty()) {
                tokens.add("");
                places.add(b.length());
            }
            Place before = p;
            p = p.twin();
            try {
                int items = 0;
                do {
                    item();
                    items++;
                } while (took(";"));
                if (!next().isEmpty()) throw new Fault();
                return items;
            } catch (Fault e) {
                p = before;
                return -1 - places.get(at);
            }
        }

        String next() { return tokens.get(at); }

        boolean took(String word) {
            boolean is = next().equals(word);
            if (is) at++;
            return is;
        }

        int number(int least, int most) throws Fault {
            if (!next().matches("0*[0-9]{1,5}")) throw new Fault();
            int v = Integer.parseInt(next());
            if (!in(v, least, most)) throw new Fault();
            at++;
            return v;
        }

        Set<Integer> marks(String word) throws Fault {
            Set<Integer> set = new TreeSet<>();
            if (!took(word)) return set;
            do set.add(number(0, 11)); while (next().matches("[0-9]+"));
            return set;
        }

        void item() throws Fault {
            if (KINDS.contains(next())) {
                if (p.scribes.size() == 6) throw new Fault();
                int kind = new int[] {0, 1, 2, 3, 4, 5, 6}[KINDS.indexOf(next())];
                at++;
                Scribe s = new Scribe(kind);
                s.cuts = marks("cuts");
                s.adds = marks("adds");
                s.when = marks("when");
                if (took("price")) s.price = number(0, 99);
                p.scribes.add(s);
            } else if (next().equals("person")) {
                if (p.souls.size() == 8) throw new Fault();
                at++;
                if (!took("by")) throw new Fault();
                Soul s = new Soul(number(0, p.scribes.size() - 1));
                s.truth = bits(marks("truth"));
                if (took("pence")) s.pence = number(0, 99999);
                p.souls.add(s);
            } else if (took("tie")) {
                int one = number(0, p.souls.size() - 1);
                int here = at;
                int other = number(0, p.souls.size() - 1);
                if (one == other) {
                    at = here;
                    throw new Fault();
                }
                p.ties.add(10 * Math.min(one, other) + Math.max(one, other));
            } else {
                throw new Fault();
            }
        }

        int sheets(String name, int[] a) {
            if (name.equals("hold")) {
                if (!in(a[0], 0, 9) || !in(a[1], -1, p.scribes.size() - 1)) return f(BEYOND);
                p.spots[a[0]] = a[1] == -1 ? null : a[1];
                return 1;
            }
            if (name.equals("as")) {
                if (!in(a[0], 0, 9) || !in(a[1], 0, 6)) return f(BEYOND);
                if (p.spots[a[0]] == null) return f(MISSING);
                String[] over = {"0", "01", "02", "013", "024", "05", "026"};
                boolean is = over[p.scribes.get(p.spots[a[0]]).kind].indexOf('0' + a[1]) >= 0;
                return is ? p.spots[a[0]] : f(KIND);
            }
            if (!in(a[0], 0, 3)) return f(BEYOND);
            if (name.equals("sheet")) {
                if (!List.of(0, 8, 16, 32).contains(a[1])) return f(BEYOND);
                if (a[2] < 0) return f(SIZE);
                if (a[2] > 40) return f(BEYOND);
                widths[a[0]] = a[1];
                sheets[a[0]] = a[1] == 0 ? null : new int[a[2]];
                return a[1] == 0 ? 0 : a[2];
            }
            if (name.equals("copy") && !in(a[2], 0, 3)) return f(BEYOND);
            int[] s = sheets[a[0]];
            if (s == null) return f(MISSING);
            switch (name) {
                case "write":
                    if (!in(a[1], 0, s.length - 1)) return f(BEYOND);
                    s[a[1]] = a[2] << 32 - widths[a[0]] >> 32 - widths[a[0]];
                    return 1;
                case "copy": {
                    int[] t = sheets[a[2]];
                    if (t == null) return f(MISSING);
                    if (widths[a[0]] != widths[a[2]]) return f(KIND);
                    long from = a[1], to = a[3], n = a[4];
                    if (from < 0 || to < 0 || n < 0 || from + n > s.length || to + n > t.length) return f(BEYOND);
                    int[] was = s.clone();
                    for (int i = 0; i < n; i++) t[a[3] + i] = was[a[1] + i];
                    return a[4];
                }
                case "load": {
                    int came = 0;
                    for (int v : s) {
                        if (!in(v, 0, 4095) || came == p.souls.size()) break;
                        p.souls.get(came).truth = v;
                        came++;
                    }
                    return came;
                }
                default: {
                    if (!w(a[1])) return f(BEYOND);
                    Set<Integer> can = new HashSet<>();
                    for (int t : p.scribes.get(a[1]).table()) can.add(t);
                    for (int i = 0; i < s.length; i++) if (!can.contains(s[i])) return 1 + i;
                    return 0;
                }
            }
        }

        int images(String name, int[] a) {
            switch (name) {
                case "image":
                    kept = p.twin();
                    return 1;
                case "undo":
                    if (kept == null) return f(NONE);
                    p = kept.twin();
                    return p.year;
                case "tear": {
                    int was = kept == null ? 0 : 1;
                    kept = null;
                    return was;
                }
                case "count":
                    return switch (a[0]) {
                        case 0 -> p.scribes.size();
                        case 1 -> p.souls.size();
                        case 2 -> (int) p.souls.stream().filter(s -> s.lettered).count();
                        case 3 -> purses();
                        case 4 -> p.souls.stream().mapToInt(s -> Integer.bitCount(of(s, 5))).sum();
                        case 5 -> tape.size();
                        case 6 -> p.z;
                        case 7 -> (int) Arrays.stream(p.spots).filter(s -> s != null).count();
                        default -> f(BEYOND);
                    };
                default:
                    if (a[0] == -1) return Arrays.stream(tally).sum();
                    return in(a[0], 0, 6) ? tally[a[0]] : f(BEYOND);
            }
        }
    }

    // ---- the program by the same names

    static int call(ScribeTables x, String name, int[] a) {
        return switch (name) {
            case "writer" -> x.writer(a[0]);
            case "writerOf" -> x.writerOf(a[0], a[1]);
            case "law" -> x.law(a[0], a[1], a[2]);
            case "person" -> x.person(a[0]);
            case "of" -> x.of(a[0], a[1]);
            case "change" -> x.change(a[0], a[1], a[2]);
            case "tie" -> x.tie(a[0], a[1], a[2] == 1);
            case "ties" -> x.ties(a[0]);
            case "puts" -> x.puts(a[0], a[1]);
            case "says" -> x.says(a[0]);
            case "read" -> x.read(a[0], a[1], a[2]);
            case "send" -> x.send(a[0], a[1], a[2]);
            case "years" -> x.years(a[0]);
            case "now" -> x.now(a[0]);
            case "who" -> x.who(a[0]);
            case "ahead" -> x.ahead(a[0], a[1]);
            case "when" -> x.when(a[0], a[1]);
            case "without" -> x.without(a[0], a[1], a[2]);
            case "added" -> x.added(a[0], a[1]);
            case "best" -> x.best(a[0], a[1], a[2]);
            case "bridge" -> x.bridge(a[0], a[1]);
            case "many" -> x.many(a[0], a[1]);
            case "said" -> x.said(a[0], a[1], a[2]);
            case "hands" -> x.hands(a[0]);
            case "likeliest" -> x.likeliest(a[0]);
            case "near" -> x.near(a[0], a[1], a[2]);
            case "honest" -> x.honest(a[0]);
            case "round" -> x.round(a[0], a[1]);
            case "settles" -> x.settles(a[0]);
            case "court" -> x.court(a[0], a[1], a[2]);
            case "witness" -> x.witness(a[0]);
            case "price" -> x.price(a[0], a[1]);
            case "school" -> x.school(a[0]);
            case "gossip" -> x.gossip(a[0]);
            case "seed" -> x.seed(a[0]);
            case "feed" -> x.feed(a[0], a[1]);
            case "wipe" -> x.wipe();
            case "text" -> x.text();
            case "hold" -> x.hold(a[0], a[1]);
            case "as" -> x.as(a[0], a[1]);
            case "sheet" -> x.sheet(a[0], a[1], a[2]);
            case "write" -> x.write(a[0], a[1], a[2]);
            case "copy" -> x.copy(a[0], a[1], a[2], a[3], a[4]);
            case "load" -> x.load(a[0]);
            case "judge" -> x.judge(a[0], a[1]);
            case "image" -> x.image();
            case "undo" -> x.undo();
            case "tear" -> x.tear();
            case "count" -> x.count(a[0]);
            default -> x.status(a[0]);
        };
    }

    // ---- the calls that are drawn

    /** Each call's name and what its arguments are; a call that stands twice comes twice as often. */
    private static final String[] CALLS = {
        "writer k", "writerOf w a5", "law w a4 v", "law w 1 s", "law w 2 s", "law w 3 s", "law w 4 c", "law w 0 k",
        "person w", "person w", "of p a5", "of p a5", "change p a4 v", "change p 0 s", "change p 1 s", "change p 2 w",
        "change p 3 q", "change p 4 b", "tie p p b", "tie p p 1", "tie p p 1", "ties p",
        "puts w s", "says p", "read p p s", "send p p s", "send p p s", "years y", "years y", "now a5", "who m",
        "ahead n a10", "ahead n a10", "when p m", "when p m", "without w m n", "added m n", "added m n", "best p p n",
        "best p p n", "bridge m n", "bridge m n",
        "many w t", "said w t a2", "hands t", "likeliest t", "near w s t", "honest w", "round s r", "settles s",
        "court w w s", "witness w", "price w r", "price w r", "school z", "school z", "gossip g", "seed v",
        "feed v f", "wipe", "text", "TEXT", "TEXT",
        "hold o w", "as o k", "sheet h i l", "write h e v", "write h e s", "copy h e h e e", "load h", "judge h w",
        "image", "undo", "tear", "count a7", "count a7", "status u"};

    static int pick(Random r, int least, int most) { return least + r.nextInt(most - least + 1); }

    static int fewMarks(Random r) { return r.nextInt(4096) & r.nextInt(4096); }

    private static final int[] WILD = {Integer.MIN_VALUE, Integer.MIN_VALUE + 1, -4096, -32, -2, -1, 0, 1, 6, 8, 12, 31, 32, 40,
        41, 120, 999, 4095, 4096, 65536, 99999, 100000, Integer.MAX_VALUE - 1, Integer.MAX_VALUE};

    static int argument(Random r, String sort, boolean wild) {
        if (wild && r.nextInt(6) == 0) return WILD[r.nextInt(WILD.length)];
        if (r.nextInt(60) == 0) return pick(r, -2, 2);
        if (r.nextInt(90) == 0) return r.nextInt();
        char c = sort.charAt(0);
        if (Character.isDigit(c)) return Integer.parseInt(sort);
        return switch (c) {
            case 'a' -> pick(r, 0, Integer.parseInt(sort.substring(1)));
            case 'b' -> pick(r, 0, 1);
            case 'c' -> pick(r, 0, r.nextBoolean() ? 9 : 100);
            case 'e' -> pick(r, 0, r.nextBoolean() ? 6 : 41);
            case 'f' -> pick(r, 1, 4);
            case 'g' -> pick(r, 1, 13);
            case 'h' -> pick(r, 0, 3);
            case 'i' -> new int[] {0, 8, 16, 32, 32, 16, 16, 24}[r.nextInt(8)];
            case 'k' -> pick(r, 0, 6);
            case 'l' -> pick(r, 0, 41);
            case 'm' -> pick(r, 0, 11);
            case 'n' -> pick(r, 0, r.nextBoolean() ? 5 : 61);
            case 'o' -> pick(r, 0, 9);
            case 'p' -> pick(r, 0, 7);
            case 'q' -> pick(r, 0, r.nextBoolean() ? 60 : 100000);
            case 'r' -> pick(r, 0, 20);
            case 's' -> r.nextBoolean() ? fewMarks(r) : r.nextInt(4096);
            case 't' -> r.nextBoolean() ? fewMarks(r) & fewMarks(r) : fewMarks(r);
            case 'u' -> pick(r, -1, 7);
            case 'w' -> pick(r, 0, 5);
            case 'y' -> r.nextInt(8) == 0 ? 30 : pick(r, 1, 3);
            case 'z' -> pick(r, 1, 9);
            default -> r.nextInt();
        };
    }

    private static final String[] WORDS = {"writer", "soft", "form", "poet", "clerk", "deaf", "terse", "cuts", "adds",
        "when", "price", "person", "by", "truth", "pence", "tie", ";", ";", "0", "1", "11", "12", "99", "100", "99999",
        "100000", "x", "Z", "", "\n", "007", "99999999999999999999", "\u00e9"};

    static String text(Random r) {
        StringBuilder b = new StringBuilder();
        int items = pick(r, 1, 6);
        for (int i = 0; i < items; i++) {
            if (i > 0) b.append(';');
            int sort = r.nextInt(3);
            if (sort == 0) {
                b.append(WORDS[r.nextInt(7)]);
                for (int w = 7; w < 10; w++) if (r.nextInt(3) == 0) b.append(' ').append(WORDS[w]).append(numbers(r));
                if (r.nextInt(3) == 0) b.append(" price ").append(pick(r, 0, r.nextInt(5) == 0 ? 101 : 20));
            } else if (sort == 1) {
                b.append("person by").append(r.nextBoolean() ? " " : "").append(pick(r, 0, 3));
                if (r.nextBoolean()) b.append(" truth").append(numbers(r));
                if (r.nextInt(3) == 0) b.append(" pence ").append(pick(r, 0, r.nextInt(5) == 0 ? 100001 : 50));
            } else {
                b.append("tie ").append(pick(r, 0, 5)).append(' ').append(pick(r, 0, 5));
            }
            if (r.nextInt(20) == 0) b.append(' ').append(WORDS[r.nextInt(WORDS.length)]);
            if (r.nextInt(9) == 0) b.append("  ");
        }
        if (r.nextInt(5) == 0) b.insert(r.nextInt(b.length() + 1), WORDS[r.nextInt(WORDS.length)]);
        if (r.nextInt(8) == 0) b.setLength(r.nextInt(b.length() + 1));
        return b.toString();
    }

    static String numbers(Random r) {
        StringBuilder b = new StringBuilder();
        int n = pick(r, r.nextInt(9) == 0 ? 0 : 1, 4);
        for (int i = 0; i < n; i++) b.append(i == 0 && r.nextInt(4) == 0 ? "" : " ").append(pick(r, 0, r.nextInt(20) == 0 ? 13 : 11));
        return b.toString();
    }

    private static int calls = 0;

    static boolean same(ScribeTables x, Model m, int run, String name, int... a) {
        calls++;
        int want = m.call(name, a);
        int got = call(x, name, a);
        if (got != want) {
            System.out.println("run " + run + ": " + name + Arrays.toString(a) + " answered " + got + ", due is " + want);
        }
        return got == want;
    }

    static boolean run(int run) {
        Random r = new Random(run);
        ScribeTables x = new ScribeTables();
        Model m = new Model();
        calls = 0;
        boolean ok = true;
        int begin = r.nextInt(4);
        for (int i = 0; i < begin + 1 && run % 4 != 0; i++) {
            ok &= same(x, m, run, "writer", r.nextInt(7));
            ok &= same(x, m, run, "law", i, 1, fewMarks(r) & fewMarks(r));
            ok &= same(x, m, run, "law", i, 2, fewMarks(r));
            ok &= same(x, m, run, "law", i, 3, fewMarks(r));
            ok &= same(x, m, run, "person", i);
            ok &= same(x, m, run, "change", i, 0, fewMarks(r));
            ok &= same(x, m, run, "change", i, 3, r.nextInt(1000));
        }
        // the document promises 512 calls: a text takes some thirty, what is asked at the end some hundred
        while (calls < 360 && ok) {
            String[] parts = CALLS[r.nextInt(CALLS.length)].split(" ");
            if (parts[0].equals("TEXT")) {
                String t = text(r);
                for (int k = 0; k < t.length(); k += 4) {
                    int n = Math.min(4, t.length() - k), bytes = r.nextInt(1000);
                    for (int j = 0; j < n; j++) bytes = bytes << 8 | t.charAt(k + j) & 255;
                    ok &= same(x, m, run, "feed", bytes, n);
                }
                ok &= same(x, m, run, "text");
                continue;
            }
            int[] a = new int[parts.length - 1];
            for (int k = 0; k < a.length; k++) a[k] = argument(r, parts[k + 1], run % 3 == 2);
            if (parts[0].equals("tie")) a[2] = a[2] == 1 ? 1 : 0;
            ok &= same(x, m, run, parts[0], a);
        }
        for (int i = 0; i < 8; i++) ok &= same(x, m, run, "count", i) & same(x, m, run, "status", i - 1);
        for (int i = 0; i < 6; i++) ok &= same(x, m, run, "now", i);
        for (int i = 0; i < 48; i++) ok &= same(x, m, run, "of", i / 6, i % 6) & same(x, m, run, "writerOf", i / 6, i % 6);
        return ok;
    }

    public static void main(String[] args) {
        int runs = args.length > 0 ? Integer.parseInt(args[0]) : 300;
        int wrong = 0;
        for (int run = 0; run < runs; run++) {
            TABLES.clear();
            if (!run(run)) wrong++;
        }
        System.out.println(wrong == 0 ? runs + " runs are as due" : wrong + " runs are not as due");
        if (wrong != 0) System.exit(1);
    }
}
