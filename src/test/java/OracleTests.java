import java.math.BigInteger;
import java.util.ArrayList;
import java.util.HashMap;
import java.util.LinkedHashMap;
import java.util.List;
import java.util.Map;
import java.util.Random;
import java.util.TreeMap;
import java.util.function.Function;
import java.util.regex.Matcher;
import java.util.regex.Pattern;

/** Random runs, each call held against a second, slow telling of the document. */
public final class OracleTests {
    private static final int CALLS = 512;
    private static final Map<String, Integer> FAULTS = new TreeMap<>();
    private static int wrong = 0;
    private static long calls = 0;

    public static void main(String[] args) {
        runs("of all calls", 400, Run::go);
        runs("of texts", 60, Run::goThroughTexts);
        runs("of late days", 20, Run::goLate);
        runs("of dear calls", 12, Run::goDear);
        System.out.println(calls + " calls; faults met " + FAULTS);
        System.out.println(wrong == 0 ? "all answers are as the oracle's" : wrong + " runs differ");
        if (wrong != 0) {
            System.exit(1);
        }
    }

    private static void runs(String what, int many, Function<Run, String> way) {
        for (int seed = 1; seed <= many && wrong < 5; seed++) {
            Run run = new Run(seed);
            String told = way.apply(run);
            calls += run.calls;
            run.faults.forEach((k, v) -> FAULTS.merge(k, v, Integer::sum));
            if (told != null) {
                wrong++;
                System.out.println("a run " + what + ", seed " + seed + ": " + told);
            }
        }
    }

    // ---------------------------------------------------------------- the oracle

    static final class Fault extends RuntimeException {
        final int kind;
        final int place;

        Fault(int kind, int place) {
            super(null, null, false, false);
            this.kind = kind;
            this.place = place;
        }
    }

    interface Value {
        int of(Map<String, Integer> names);
    }

    interface Truth {
        boolean of(Map<String, Integer> names);
    }

    record Line(Value value, Truth when) { }

    record Break(String kind, int a, int b, String shape) { }

    record Token(String kind, String text, int place) { }

    static final class Reader {
        static final Pattern TOKEN = Pattern.compile("[ \\n]+|([A-Za-z]+)|([0-9]+)|([;+\\-*/()<=>])|(.)", Pattern.DOTALL);
        final List<Token> tokens = new ArrayList<>();
        final List<String> names;
        int at = 0;

        Reader(String text, List<String> words, List<String> names) {
            this.names = names;
            Matcher m = TOKEN.matcher(text);
            while (m.find()) {
                if (m.group(1) != null) {
                    tokens.add(new Token(words.contains(m.group(1)) || names.contains(m.group(1)) ? m.group(1) : "?", m.group(1), m.start()));
                } else if (m.group(2) != null) {
                    tokens.add(new Token(m.group(2).length() <= 4 ? "N" : "?", m.group(2), m.start()));
                } else if (m.group(3) != null) {
                    tokens.add(new Token(m.group(3), m.group(3), m.start()));
                } else if (m.group(4) != null) {
                    tokens.add(new Token("?", m.group(4), m.start()));
                }
            }
            tokens.add(new Token("END", "", text.length()));
        }

        Token now() {
            return tokens.get(at);
        }

        boolean is(String kind) {
            return now().kind().equals(kind);
        }

        Token take(String kind) {
            if (!is(kind)) {
                throw new Fault(1, now().place());
            }
            return tokens.get(at++);
        }

        List<Line> lines(String head) {
            List<Line> lines = new ArrayList<>();
            while (!is("END")) {
                Token first = take(head);
                if (lines.size() == 16) {
                    throw new Fault(3, first.place());
                }
                Value value = sum();
                Truth when = names -> true;
                if (is("when")) {
                    take("when");
                    when = either(0);
                }
                take(";");
                lines.add(new Line(value, when));
            }
            return lines;
        }

        Value sum() {
            Value left = product();
            while (is("+") || is("-")) {
                boolean plus = take(now().kind()).kind().equals("+");
                Value a = left;
                Value b = product();
                left = plus ? n -> a.of(n) + b.of(n) : n -> a.of(n) - b.of(n);
            }
            return left;
        }

        Value product() {
            Value left = unit();
            while (is("*") || is("/")) {
                Value a = left;
                if (take(now().kind()).kind().equals("*")) {
                    Value b = unit();
                    left = n -> a.of(n) * b.of(n);
                } else {
                    Token part = take("N");
                    int by = Integer.parseInt(part.text());
                    if (by == 0) {
                        throw new Fault(2, part.place());
                    }
                    left = n -> a.of(n) / by;
                }
            }
            return left;
        }

        Value unit() {
            if (is("N")) {
                int number = Integer.parseInt(take("N").text());
                return n -> number;
            }
            if (names.contains(now().kind())) {
                String name = take(now().kind()).text();
                return n -> n.get(name);
            }
            throw new Fault(1, now().place());
        }

        Truth either(int open) {
            Truth left = both(open);
            while (is("or")) {
                take("or");
                Truth a = left;
                Truth b = both(open);
                left = n -> a.of(n) || b.of(n);
            }
            return left;
        }

        Truth both(int open) {
            Truth left = clause(open);
            while (is("and")) {
                take("and");
                Truth a = left;
                Truth b = clause(open);
                left = n -> a.of(n) && b.of(n);
            }
            return left;
        }

        Truth clause(int open) {
            if ((is("not") || is("(")) && open == 8) {
                throw new Fault(3, now().place());
            }
            if (is("not")) {
                take("not");
                Truth a = clause(open + 1);
                return n -> !a.of(n);
            }
            if (is("(")) {
                take("(");
                Truth a = either(open + 1);
                take(")");
                return a;
            }
            Value a = sum();
            if (!is("<") && !is("=") && !is(">")) {
                throw new Fault(1, now().place());
            }
            String sign = take(now().kind()).kind();
            Value b = sum();
            if (sign.equals("<")) {
                return n -> a.of(n) < b.of(n);
            }
            return sign.equals("=") ? n -> a.of(n) == b.of(n) : n -> a.of(n) > b.of(n);
        }

        int small(int least) {
            Token t = take("N");
            int number = Integer.parseInt(t.text());
            if (number < 1 || number > 8 || number < least) {
                throw new Fault(2, t.place());
            }
            return number;
        }

        List<Break> breaks() {
            List<Break> all = new ArrayList<>();
            while (!is("END")) {
                Token t = now();
                if (!List.of("side", "any", "shape").contains(t.kind())) {
                    throw new Fault(1, t.place());
                }
                if (all.size() == 8) {
                    throw new Fault(3, t.place());
                }
                at++;
                if (t.kind().equals("side")) {
                    int k = small(1);
                    all.add(new Break("side", k, k, ""));
                } else if (t.kind().equals("any")) {
                    int k = small(1);
                    take("in");
                    all.add(new Break("any", k, small(k), ""));
                } else {
                    StringBuilder shape = new StringBuilder();
                    do {
                        if (!List.of("gone", "there", "all").contains(now().kind())) {
                            throw new Fault(1, now().place());
                        }
                        if (shape.length() == 8) {
                            throw new Fault(3, now().place());
                        }
                        shape.append(tokens.get(at++).kind().charAt(0));
                    } while (List.of("gone", "there", "all").contains(now().kind()));
                    all.add(new Break("shape", 0, 0, shape.toString()));
                }
                take(";");
            }
            return all;
        }
    }

    /** A row told as signs: g for GONE, t for there. */
    static boolean fails(List<Break> breaks, String row) {
        for (Break b : breaks) {
            for (int from = 0; from < row.length(); from++) {
                for (int to = from + 1; to <= row.length(); to++) {
                    String part = row.substring(from, to);
                    long gone = part.chars().filter(c -> c == 'g').count();
                    if (b.kind().equals("side") && part.length() == b.a() && gone == b.a()) {
                        return true;
                    }
                    if (b.kind().equals("any") && part.length() <= b.b() && gone >= b.a()) {
                        return true;
                    }
                    if (b.kind().equals("shape") && part.matches(b.shape().replace('a', '.'))) {
                        return true;
                    }
                }
            }
        }
        return false;
    }

    static final class Slat implements Cloneable {
        int sort;
        int age;
        boolean gone;
        int seen = -1;
        boolean seenGone;
        int changes;

        Slat copy() {
            try {
                return (Slat) clone();
            } catch (CloneNotSupportedException e) {
                throw new IllegalStateException(e);
            }
        }
    }

    static final class World {
        List<Slat> row = new ArrayList<>();
        int[] weak = {10, 10, 10, 10, 10, 10};
        int[] price = {1, 1, 1, 1, 1, 1};
        int[] told = {0, 5, 11, 1, 1, 100, 99, 99};
        int state;
        int day;
        int failures;
        int cost;
        int changed;
        int stay;
        int stayPlace = -1;
        List<Line> law = new ArrayList<>();
        List<Line> first = new ArrayList<>();
        List<Line> second = new ArrayList<>();
        List<Break> breaks = new ArrayList<>();

        World(int n) {
            begin(n);
        }

        void begin(int n) {
            row = new ArrayList<>();
            for (int i = 0; i < n; i++) {
                row.add(new Slat());
            }
            stay = 0;
            stayPlace = -1;
        }

        World copy() {
            World w = new World(2);
            w.row = new ArrayList<>();
            for (Slat s : row) {
                w.row.add(s.copy());
            }
            w.weak = weak.clone();
            w.price = price.clone();
            w.told = told.clone();
            w.state = state;
            w.day = day;
            w.failures = failures;
            w.cost = cost;
            w.changed = changed;
            w.stay = stay;
            w.stayPlace = stayPlace;
            w.law = law;
            w.first = first;
            w.second = second;
            w.breaks = breaks;
            return w;
        }

        int n() {
            return row.size();
        }

        boolean has(int p) {
            return p >= 0 && p < n();
        }

        String signs() {
            StringBuilder b = new StringBuilder();
            for (Slat s : row) {
                b.append(s.gone ? 'g' : 't');
            }
            return b.toString();
        }

        boolean goneAt(int p) {
            return has(p) && row.get(p).gone;
        }

        int beside(int p) {
            return (goneAt(p - 1) ? 1 : 0) + (goneAt(p + 1) ? 1 : 0);
        }

        Map<String, Integer> names(int p) {
            Slat s = row.get(p);
            Map<String, Integer> m = new HashMap<>();
            m.put("weak", weak[s.sort]);
            m.put("age", s.age);
            m.put("sort", s.sort);
            m.put("beside", beside(p));
            m.put("place", p);
            m.put("size", n());
            m.put("load", told[0]);
            m.put("day", day);
            m.put("mid", Math.abs(2 * p + 1 - n()));
            m.put("gone", s.gone ? 1 : 0);
            m.put("phase", (p + day) % told[1]);
            m.put("since", s.seen < 0 ? day + 1 : day - s.seen);
            return m;
        }

        static int ask(List<Line> lines, Map<String, Integer> names) {
            for (Line l : lines) {
                if (l.when().of(names)) {
                    return l.value().of(names);
                }
            }
            return 0;
        }

        static int held(int v) {
            return v < 0 ? 0 : v > 1000 ? 1000 : v;
        }

        int goes(int p) {
            return held(ask(law, names(p)));
        }

        int guess(int p) {
            Slat s = row.get(p);
            if (s.seen < 0) {
                return 500;
            }
            if (s.seenGone) {
                return 1000;
            }
            Map<String, Integer> m = names(p);
            m.put("beside", 0);
            int goes = held(ask(law, m));
            int left = 1000;
            for (int i = 0; i < day - s.seen; i++) {
                left = left * (1000 - goes) / 1000;
            }
            return 1000 - left;
        }

        int draw(int m) {
            state = state * 1664525 + 1013904223;
            return (int) (((state & 0xFFFFFFFFL) >> 8) % m);
        }

        void dayGoes(List<Line> rule) {
            int[] goes = new int[n()];
            for (int p = 0; p < n(); p++) {
                goes[p] = goes(p);
            }
            for (int p = 0; p < n(); p++) {
                Slat s = row.get(p);
                if (s.gone) {
                    continue;
                }
                if (draw(1000) < goes[p]) {
                    s.gone = true;
                } else {
                    s.age++;
                    if (s.age > stay) {
                        stay = s.age;
                        stayPlace = p;
                    }
                }
            }
            day++;
            if (fails(breaks, signs())) {
                failures++;
                cost += told[5];
            }
            if (day % told[3] == 0) {
                comes(rule);
            }
        }

        void comes(List<Line> rule) {
            List<int[]> wanted = new ArrayList<>();
            for (int p = 0; p < n(); p++) {
                int urge = ask(rule, names(p));
                if (urge > 0) {
                    wanted.add(new int[] {p, urge});
                }
            }
            for (Slat s : row) {
                s.seen = day;
                s.seenGone = s.gone;
            }
            wanted.sort((x, y) -> x[1] != y[1] ? Integer.compare(y[1], x[1]) : Integer.compare(x[0], y[0]));
            int many = 0;
            for (int[] w : wanted) {
                if (many >= told[2] || told[6] + told[7] == 0) {
                    break;
                }
                many++;
                Slat s = row.get(w[0]);
                int left = w[0] + 1;
                int right = n() - w[0];
                int end = left <= right ? 6 : 7;
                if (told[end] == 0) {
                    end = 13 - end;
                }
                told[end]--;
                cost += price[s.sort] + told[4] * (end == 6 ? left : right);
                changed++;
                s.changes++;
                s.age = 0;
                s.gone = false;
                s.seenGone = false;
            }
        }

        long chance(boolean thought) {
            Map<String, Long> weights = new LinkedHashMap<>();
            weights.put("", 1000000000000L);
            long out = 0;
            for (int p = 0; p < n(); p++) {
                long c = thought ? guess(p) : row.get(p).gone ? 1000 : goes(p);
                Map<String, Long> next = new LinkedHashMap<>();
                for (Map.Entry<String, Long> e : weights.entrySet()) {
                    long gone = e.getValue() * c / 1000;
                    for (char sign : new char[] {'g', 't'}) {
                        long w = sign == 'g' ? gone : e.getValue() - gone;
                        String then = e.getKey() + sign;
                        if (failsCached(then)) {
                            out += w;
                        } else {
                            next.merge(then.length() > 7 ? then.substring(1) : then, w, Long::sum);
                        }
                    }
                }
                weights = next;
            }
            return out;
        }

        static final Map<List<Break>, Map<String, Boolean>> CACHE = new java.util.IdentityHashMap<>();

        boolean failsCached(String signs) {
            if (CACHE.size() > 50) {
                CACHE.clear();
            }
            return CACHE.computeIfAbsent(breaks, k -> new HashMap<>()).computeIfAbsent(signs, k -> fails(breaks, k));
        }

        static String signsOf(int set, int n) {
            StringBuilder b = new StringBuilder();
            for (int p = 0; p < n; p++) {
                b.append((set >> p & 1) == 1 ? 'g' : 't');
            }
            return b.toString();
        }

        TreeMap<Integer, Long> aheadFirst() {
            TreeMap<Integer, Long> weights = new TreeMap<>();
            int set = 0;
            for (int p = 0; p < n(); p++) {
                if (row.get(p).gone) {
                    set |= 1 << p;
                }
            }
            if (!fails(breaks, signs())) {
                weights.put(set, 1000000000000L);
            }
            return weights;
        }

        TreeMap<Integer, Long> aheadDay(TreeMap<Integer, Long> weights, int more) {
            TreeMap<Integer, Long> next = new TreeMap<>();
            World w = copy();
            w.day += more;
            for (Slat s : w.row) {
                s.age += more;
            }
            for (Map.Entry<Integer, Long> e : weights.entrySet()) {
                for (int p = 0; p < n(); p++) {
                    w.row.get(p).gone = (e.getKey() >> p & 1) == 1;
                }
                int[] goes = new int[n()];
                for (int p = 0; p < n(); p++) {
                    goes[p] = w.goes(p);
                }
                spread(next, goes, e.getKey(), e.getKey(), 0, e.getValue());
            }
            return next;
        }

        void spread(TreeMap<Integer, Long> next, int[] goes, int from, int set, int p, long w) {
            if (w == 0) {
                return;
            }
            if (p == n()) {
                if (!failsCached(signsOf(set, n()))) {
                    next.merge(set, w, Long::sum);
                }
                return;
            }
            if ((from >> p & 1) == 1) {
                spread(next, goes, from, set, p + 1, w);
                return;
            }
            long gone = w * goes[p] / 1000;
            spread(next, goes, from, set | 1 << p, p + 1, gone);
            spread(next, goes, from, set, p + 1, w - gone);
        }

        long sum(TreeMap<Integer, Long> weights) {
            return weights.values().stream().mapToLong(Long::longValue).sum();
        }

        TreeMap<Integer, Long> behind(int d) {
            TreeMap<Integer, Long> weights = aheadFirst();
            for (int i = 0; i < d; i++) {
                weights = aheadDay(weights, i);
            }
            return weights;
        }

        int lasts() {
            TreeMap<Integer, Long> weights = aheadFirst();
            BigInteger all = BigInteger.ZERO;
            for (int d = 0; d < 60; d++) {
                all = all.add(BigInteger.valueOf(sum(weights)));
                if (d < 59) {
                    weights = aheadDay(weights, d);
                }
            }
            return all.multiply(BigInteger.valueOf(1000)).divide(BigInteger.valueOf(1000000000000L)).intValueExact();
        }

        int mostLikely(int d) {
            int best = -1;
            long most = 0;
            for (Map.Entry<Integer, Long> e : behind(d).entrySet()) {
                if (e.getValue() > most) {
                    most = e.getValue();
                    best = e.getKey();
                }
            }
            return best;
        }

        long hold(int k) {
            if (n() <= 10) {
                long many = 0;
                for (int set = 0; set < 1 << n(); set++) {
                    if (Integer.bitCount(set) == k && !fails(breaks, signsOf(set, n()))) {
                        many++;
                    }
                }
                return many;
            }
            Map<String, BigInteger> rows = new HashMap<>();
            rows.put("0:", BigInteger.ONE);
            for (int p = 0; p < n(); p++) {
                Map<String, BigInteger> next = new HashMap<>();
                rows.forEach((key, ways) -> {
                    int gone = Integer.parseInt(key.substring(0, key.indexOf(':')));
                    String last = key.substring(key.indexOf(':') + 1);
                    for (char sign : new char[] {'g', 't'}) {
                        String then = last + sign;
                        int more = sign == 'g' ? gone + 1 : gone;
                        if (more <= k && !failsCached(then)) {
                            next.merge(more + ":" + (then.length() > 7 ? then.substring(1) : then), ways, BigInteger::add);
                        }
                    }
                });
                rows = next;
            }
            BigInteger all = BigInteger.ZERO;
            for (Map.Entry<String, BigInteger> e : rows.entrySet()) {
                if (e.getKey().startsWith(k + ":")) {
                    all = all.add(e.getValue());
                }
            }
            return all.longValueExact();
        }

        int which(int k) {
            int best = -1;
            long least = Long.MAX_VALUE;
            for (int many = 0; many <= k; many++) {
                for (int set = 0; set < 1 << n(); set++) {
                    if (Integer.bitCount(set) != many) {
                        continue;
                    }
                    World w = copy();
                    for (int p = 0; p < n(); p++) {
                        if ((set >> p & 1) == 1) {
                            w.row.get(p).gone = false;
                            w.row.get(p).age = 0;
                        }
                    }
                    long c = w.chance(false);
                    if (c < least) {
                        least = c;
                        best = set;
                    }
                }
            }
            return best;
        }

        int where(int at) {
            List<Integer> sorts = new ArrayList<>();
            for (Slat s : row) {
                sorts.add(s.sort);
            }
            World w = copy();
            for (Slat s : w.row) {
                s.age = 0;
                s.gone = false;
            }
            long[] least = {Long.MAX_VALUE};
            List<Integer> best = new ArrayList<>();
            orders(w, sorts, new ArrayList<>(), least, best);
            return best.get(at);
        }

        static void orders(World w, List<Integer> rest, List<Integer> head, long[] least, List<Integer> best) {
            if (rest.isEmpty()) {
                for (int p = 0; p < head.size(); p++) {
                    w.row.get(p).sort = head.get(p);
                }
                long c = w.chance(false);
                if (c < least[0]) {
                    least[0] = c;
                    best.clear();
                    best.addAll(head);
                }
                return;
            }
            for (int sort = 0; sort < 6; sort++) {
                if (rest.contains(sort)) {
                    List<Integer> fewer = new ArrayList<>(rest);
                    fewer.remove(Integer.valueOf(sort));
                    head.add(sort);
                    orders(w, fewer, head, least, best);
                    head.remove(head.size() - 1);
                }
            }
        }

        /** The least way by going through the PLACES with all that may still lie at the left end. */
        int stocks(int set, int what) {
            TreeMap<Integer, Integer> wayByLeft = new TreeMap<>();
            wayByLeft.put(0, 0);
            int many = 0;
            for (int p = 0; p < n(); p++) {
                if ((set >> p & 1) == 0) {
                    continue;
                }
                TreeMap<Integer, Integer> next = new TreeMap<>();
                for (Map.Entry<Integer, Integer> e : wayByLeft.entrySet()) {
                    next.merge(e.getKey() + 1, e.getValue() + p + 1, Math::min);
                    next.merge(e.getKey(), e.getValue() + n() - p, Math::min);
                }
                wayByLeft = next;
                many++;
            }
            int best = -1;
            int least = Integer.MAX_VALUE;
            for (Map.Entry<Integer, Integer> e : wayByLeft.entrySet()) {
                if (e.getKey() <= told[6] && many - e.getKey() <= told[7] && e.getValue() < least) {
                    least = e.getValue();
                    best = e.getKey();
                }
            }
            return best < 0 ? -1 : what == 0 ? least : best;
        }

        World after(int rule, int every, int d) {
            World w = copy();
            w.told[3] = every;
            for (int i = 0; i < d; i++) {
                w.dayGoes(rule == 1 ? first : second);
            }
            return w;
        }

        int nine(int m) {
            BigInteger left = BigInteger.valueOf(1000000);
            for (int i = 0; i < m; i++) {
                left = left.multiply(BigInteger.valueOf(1000000 - chance(false) / 1000000)).divide(BigInteger.valueOf(1000000));
            }
            return left.intValueExact();
        }
    }

    static final class Oracle {
        static final List<String> LAW = List.of("weak", "age", "sort", "beside", "place", "size", "load", "day", "mid");
        static final List<String> RULE = List.of("gone", "age", "sort", "beside", "place", "size", "day", "phase", "since");
        World w = new World(8);
        World image;
        String tape = "";
        int fault;
        int faultPlace = -1;

        static boolean in(int v, int least, int most) {
            return v >= least && v <= most;
        }

        long answer(String call, int[] a) {
            switch (call) {
                case "state": { int was = w.state; w.state = a[0]; return was; }
                case "row": if (!in(a[0], 2, 60)) return 0; w.begin(a[0]); return 1;
                case "place": return place(a);
                case "sort": return sort(a);
                case "set": return set(a);
                case "feed": return feed(a);
                case "end": if (!in(a[0], 0, tape.length())) return 0; tape = tape.substring(0, a[0]); return 1;
                case "text": return text(a[0]);
                case "fault": return a[0] == 0 ? fault : a[0] == 1 ? faultPlace : -1;
                case "of": return of(a[0], a[1]);
                case "see": return see(a[0]);
                case "fails": return told(a[0], a[1]);
                case "days": return days(a[0]);
                case "chance": return in(a[0], 0, 1) ? w.chance(a[0] == 1) : -1;
                case "left": return w.n() <= 10 && in(a[0], 0, 60) ? w.sum(w.behind(a[0])) : -1;
                case "ahead": return ahead(a);
                case "hold": return in(a[0], 0, w.n()) ? w.hold(a[0]) : -1;
                case "which": return w.n() <= 12 && in(a[0], 0, 4) ? w.which(a[0]) : -1;
                case "where": return w.n() <= 7 && w.has(a[0]) ? w.where(a[0]) : -1;
                case "stocks": return w.n() <= 30 && in(a[1], 0, 1) && (a[0] & -1L << w.n()) == 0 ? w.stocks(a[0], a[1]) : -1;
                case "thought": return thought(a);
                case "often": return often(a);
                case "nine": return in(a[0], 1, 99) ? w.nine(a[0]) : -1;
                case "image": return image(a[0] == 1);
                case "look": return look(a[0]);
                default: throw new IllegalStateException(call);
            }
        }

        long place(int[] a) {
            if (!w.has(a[0]) || !in(a[1], 0, 5) || !in(a[2], 0, 999)) {
                return 0;
            }
            Slat s = w.row.get(a[0]);
            s.sort = a[1];
            s.age = a[2];
            s.gone = a[3] == 1;
            return 1;
        }

        long sort(int[] a) {
            if (!in(a[0], 0, 5) || !in(a[1], 0, 1000) || !in(a[2], 0, 99)) {
                return 0;
            }
            w.weak[a[0]] = a[1];
            w.price[a[0]] = a[2];
            return 1;
        }

        long set(int[] a) {
            int v = a[1];
            boolean good;
            switch (a[0]) {
                case 0: case 4: good = in(v, 0, 99); break;
                case 1: good = in(v, 1, 9); break;
                case 2: good = in(v, 0, 20); break;
                case 3: good = in(v, 1, 99); break;
                case 5: good = in(v, 0, 9999); break;
                case 6: case 7: good = in(v, 0, 999); break;
                default: good = false;
            }
            if (good) {
                w.told[a[0]] = v;
            }
            return good ? 1 : 0;
        }

        long feed(int[] a) {
            if (tape.length() > 480) {
                return -1;
            }
            StringBuilder b = new StringBuilder(tape);
            for (int v : a) {
                b.append((char) (v >> 24 & 255)).append((char) (v >> 16 & 255)).append((char) (v >> 8 & 255)).append((char) (v & 255));
            }
            tape = b.toString();
            return tape.length();
        }

        long text(int k) {
            String t = tape;
            tape = "";
            fault = 0;
            faultPlace = -1;
            try {
                switch (k) {
                    case 0: return (w.law = new Reader(t, List.of("go", "when", "and", "or", "not"), LAW).lines("go")).size();
                    case 1: return (w.first = new Reader(t, List.of("change", "when", "and", "or", "not"), RULE).lines("change")).size();
                    case 2: return (w.second = new Reader(t, List.of("change", "when", "and", "or", "not"), RULE).lines("change")).size();
                    case 3: return (w.breaks = new Reader(t, List.of("side", "any", "in", "shape", "gone", "there", "all"), List.of()).breaks()).size();
                    default: return -1;
                }
            } catch (Fault f) {
                fault = f.kind;
                faultPlace = f.place;
                return -1;
            }
        }

        long of(int p, int what) {
            if (!w.has(p) || !in(what, 0, 9)) {
                return -1000000;
            }
            Slat s = w.row.get(p);
            switch (what) {
                case 0: return s.sort;
                case 1: return s.age;
                case 2: return s.gone ? 1 : 0;
                case 3: return s.seen;
                case 4: return s.seenGone ? 1 : 0;
                case 5: return w.goes(p);
                case 6: return w.guess(p);
                case 7: return World.ask(w.first, w.names(p));
                case 8: return World.ask(w.second, w.names(p));
                default: return s.changes;
            }
        }

        long see(int p) {
            if (!w.has(p)) {
                return 0;
            }
            w.row.get(p).seen = w.day;
            w.row.get(p).seenGone = w.row.get(p).gone;
            return 1;
        }

        long told(int low, int high) {
            StringBuilder b = new StringBuilder();
            for (int p = 0; p < 64; p++) {
                int word = p < 32 ? low : high;
                boolean bit = (word >> p % 32 & 1) == 1;
                int place = p < 32 ? p : 30 + p - 32;
                boolean can = place < w.n() && p % 32 < 30;
                if (bit && !can) {
                    return -1;
                }
                if (can) {
                    b.append(bit ? 'g' : 't');
                }
            }
            return fails(w.breaks, b.toString()) ? 1 : 0;
        }

        long days(int n) {
            if (!in(n, 1, 99) || w.day + n > 9999) {
                return -1;
            }
            int before = w.failures;
            for (int i = 0; i < n; i++) {
                w.dayGoes(w.first);
            }
            return w.failures - before;
        }

        long ahead(int[] a) {
            if (w.n() > 10 || !in(a[0], 0, 1)) {
                return -1;
            }
            if (a[0] == 0) {
                return w.lasts();
            }
            return in(a[1], 0, 60) ? w.mostLikely(a[1]) : -1;
        }

        long thought(int[] a) {
            if (!in(a[0], 1, 2) || !in(a[1], 1, 99) || !in(a[2], 1, 99) || !in(a[3], 0, 2)) {
                return -1;
            }
            World then = w.after(a[0], a[1], a[2]);
            return a[3] == 0 ? then.cost - w.cost : a[3] == 1 ? then.failures - w.failures : then.changed - w.changed;
        }

        long often(int[] a) {
            if (!in(a[0], 1, 99) || !in(a[1], 0, 1)) {
                return -1;
            }
            if (a[1] == 1) {
                return w.after(2, w.told[3], a[0]).cost < w.after(1, w.told[3], a[0]).cost ? 2 : 1;
            }
            int best = 1;
            for (int every = 2; every <= 9; every++) {
                if (w.after(1, every, a[0]).cost <= w.after(1, best, a[0]).cost) {
                    best = every;
                }
            }
            return best;
        }

        long image(boolean taken) {
            if (taken) {
                image = w.copy();
                return 1;
            }
            if (image == null) {
                return 0;
            }
            w = image.copy();
            return 1;
        }

        long look(int what) {
            switch (what) {
                case 0: return w.n();
                case 1: return w.day;
                case 2: return w.failures;
                case 3: return w.cost;
                case 4: return w.changed;
                case 5: return w.row.stream().filter(s -> s.gone).count();
                case 6: return fails(w.breaks, w.signs()) ? 1 : 0;
                case 7: return w.stay;
                case 8: return w.stayPlace;
                default: return in(what, 9, 16) ? w.told[what - 9] : -1;
            }
        }
    }

    // ---------------------------------------------------------------- the runs

    static final class Run {
        final Random chance;
        final NoTwoTogether x = new NoTwoTogether();
        final Oracle oracle = new Oracle();
        final Map<String, Integer> faults = new TreeMap<>();
        int calls = 0;
        int dear = 0;
        String wrong = null;

        Run(int seed) {
            chance = new Random(seed);
        }

        String go() {
            newRow();
            for (int k = 0; k < 4; k++) {
                tell(k);
            }
            while (calls < CALLS && wrong == null) {
                step();
            }
            return wrong;
        }

        /** Texts alone, most of them with a number, a line, a bracket or a shape at an edge. */
        String goThroughTexts() {
            while (calls < CALLS - 40 && wrong == null) {
                int k = chance.nextInt(4);
                String text = k == 3 ? edgyBreaks() : edgyLines(k == 0);
                tell(k, chance.nextInt(4) == 0 ? spoil(text) : text);
                call("of", pick(0, 7), k == 0 ? 5 : k == 1 ? 7 : 8);
                call("fails", pick(0, 255), 0);
            }
            return wrong;
        }

        /** Days up to 9999, and thought beyond them. */
        String goLate() {
            newRow();
            for (int k = 0; k < 4; k++) {
                tell(k);
            }
            call("set", 3, chance.nextBoolean() ? 1 : pick(1, 99));
            for (int i = 0; i < 100; i++) {
                call("days", 99);
            }
            while (calls < CALLS && wrong == null) {
                call("days", chance.nextInt(5) == 0 ? pick(1, 99) : 1);
                lookAll();
                call("of", pick(0, oracle.w.n() - 1), pick(0, 9));
                call("thought", pick(1, 2), pick(1, 99), pick(1, 99), pick(0, 2));
                step();
            }
            return wrong;
        }

        /** What tries or foresees most, on the longest rows for which it can be. */
        String goDear() {
            int[] lengths = {7, 12, 10};
            int n = lengths[chance.nextInt(3)];
            call("row", n);
            for (int p = 0; p < n; p++) {
                call("sort", p % 6, pick(0, 120), pick(0, 9));
                call("place", p, pick(0, 5), pick(0, 20), chance.nextInt(9) == 0 ? 1 : 0);
            }
            tell(0, "go " + chance.nextInt(9) + " + weak/" + (1 + chance.nextInt(9)) + " + beside*" + chance.nextInt(60) + "+age/3;");
            String[] breaks = {"side 3;", "any 3 in 5;side 2;", "shape gone there gone;any 5 in 8;", "side 8;shape there gone gone there;"};
            tell(3, breaks[chance.nextInt(4)]);
            call("chance", 0);
            call("which", n == 10 ? 2 : 4);
            call("where", pick(0, n - 1));
            if (n == 10) {
                call("left", 2 + chance.nextInt(3));
                call("ahead", 1, 2 + chance.nextInt(3));
            }
            call("ahead", n == 10 && chance.nextInt(3) > 0 ? 1 : 0, 3);
            return wrong;
        }

        int pick(int least, int most) {
            if (chance.nextInt(60) == 0) {
                int[] odd = {least - 1, most + 1, Integer.MIN_VALUE, Integer.MAX_VALUE, -1};
                return odd[chance.nextInt(odd.length)];
            }
            return least + chance.nextInt(most - least + 1);
        }

        long call(String name, int... a) {
            if (wrong != null || calls >= CALLS) {
                return 0;
            }
            calls++;
            long got = answer(name, a);
            long want = oracle.answer(name, a);
            if (got != want) {
                wrong = "call " + calls + " " + name + java.util.Arrays.toString(a) + " answered " + got + ", the oracle " + want + " n " + oracle.w.n();
            }
            return got;
        }

        long answer(String name, int[] a) {
            switch (name) {
                case "state": return x.state(a[0]);
                case "row": return x.row(a[0]) ? 1 : 0;
                case "place": return x.place(a[0], a[1], a[2], a[3] == 1) ? 1 : 0;
                case "sort": return x.sort(a[0], a[1], a[2]) ? 1 : 0;
                case "set": return x.set(a[0], a[1]) ? 1 : 0;
                case "feed": return x.feed(a[0], a[1], a[2], a[3], a[4]);
                case "end": return x.end(a[0]) ? 1 : 0;
                case "text": return x.text(a[0]);
                case "fault": return x.fault(a[0]);
                case "of": return x.of(a[0], a[1]);
                case "see": return x.see(a[0]) ? 1 : 0;
                case "fails": return x.fails(a[0], a[1]);
                case "days": return x.days(a[0]);
                case "chance": return x.chance(a[0]);
                case "left": return x.left(a[0]);
                case "ahead": return x.ahead(a[0], a[1]);
                case "hold": return x.hold(a[0]);
                case "which": return x.which(a[0]);
                case "where": return x.where(a[0]);
                case "stocks": return x.stocks(a[0], a[1]);
                case "thought": return x.thought(a[0], a[1], a[2], a[3]);
                case "often": return x.often(a[0], a[1]);
                case "nine": return x.nine(a[0]);
                case "image": return x.image(a[0] == 1) ? 1 : 0;
                default: return x.look(a[0]);
            }
        }

        void step() {
            int n = oracle.w.n();
            boolean isShort = n <= 6;
            switch (chance.nextInt(40)) {
                case 0: newRow(); break;
                case 1: case 2: case 3: case 4: place(n); break;
                case 5: call("sort", pick(0, 5), chance.nextInt(4) > 0 ? pick(0, 90) : pick(0, 1000), pick(0, 99)); break;
                case 6: case 7: setOne(); break;
                case 8: tell(0); break;
                case 9: tell(1); break;
                case 10: tell(2); break;
                case 11: tell(3); break;
                case 12: call("state", chance.nextInt()); break;
                case 13: case 14: case 15: case 16: call("of", pick(0, n - 1), pick(0, 9)); break;
                case 17: call("see", pick(0, n - 1)); break;
                case 18: case 19: call("fails", set(Math.min(n, 30)), n > 30 ? set(n - 30) : pick(0, 0)); break;
                case 20: case 21: case 22: call("days", chance.nextInt(4) == 0 ? pick(1, 99) : pick(1, 5)); break;
                case 23: case 24: call("chance", pick(0, 1)); break;
                case 25: if (dear < 20 || n <= 5) { dear++; call("left", isShort ? pick(0, 60) : pick(0, 3)); } break;
                case 26: if (dear < 20 || n <= 5) { dear++; ahead(isShort); } break;
                case 27: call("hold", pick(0, n)); break;
                case 28: if (dear < 20) { dear++; call("which", n > 9 ? pick(0, 2) : pick(0, 4)); } break;
                case 29: if (dear < 20) { dear++; call("where", pick(0, n - 1)); } break;
                case 30: call("stocks", set(Math.min(n, 30)), pick(0, 1)); break;
                case 31: call("thought", pick(1, 2), pick(1, 12), pick(1, 40), pick(0, 2)); break;
                case 32: if (dear < 20) { dear++; call("often", pick(1, 12), pick(0, 1)); } break;
                case 33: call("nine", pick(1, 99)); break;
                case 34: call("image", chance.nextInt(2)); break;
                case 35: call("end", pick(0, 30)); break;
                default: lookAll(); break;
            }
        }

        void lookAll() {
            call("look", pick(0, 16));
            call("fault", pick(0, 1));
        }

        void ahead(boolean isShort) {
            if (oracle.w.n() <= 5 && chance.nextBoolean()) {
                call("ahead", 0, chance.nextInt());
            } else {
                call("ahead", 1, isShort ? pick(0, 60) : pick(0, 3));
            }
        }

        void newRow() {
            int n = chance.nextInt(5) == 0 ? pick(2, 60) : chance.nextInt(2) == 0 ? pick(2, 7) : pick(2, 13);
            call("row", n);
            for (int p = 0; p < Math.min(oracle.w.n(), 12); p++) {
                place(oracle.w.n());
            }
        }

        void place(int n) {
            call("place", pick(0, n - 1), pick(0, 5), chance.nextBoolean() ? pick(0, 9) : pick(0, 999), chance.nextInt(5) == 0 ? 1 : 0);
        }

        void setOne() {
            int what = pick(0, 7);
            int[] most = {99, 9, 20, 99, 99, 9999, 999, 999};
            int top = what >= 0 && what < 8 ? most[what] : 5;
            int v = chance.nextInt(3) == 0 ? pick(what == 1 || what == 3 ? 1 : 0, top) : pick(what == 1 || what == 3 ? 1 : 0, Math.min(top, 6));
            call("set", what, v);
        }

        int set(int n) {
            int bits = 0;
            for (int p = 0; p < n; p++) {
                if (chance.nextInt(3) == 0) {
                    bits |= 1 << p;
                }
            }
            return chance.nextInt(20) == 0 ? chance.nextInt() : bits;
        }

        void tell(int k) {
            String text = k == 3 ? breaks() : lines(k == 0);
            tell(k, chance.nextInt(4) == 0 ? spoil(text) : text);
        }

        void tell(int k, String text) {
            if (text.length() > 500 || calls > CALLS - 30) {
                return;
            }
            call("end", 0);
            for (int from = 0; from < text.length(); from += 20) {
                int[] words = new int[5];
                for (int i = 0; i < 20; i++) {
                    int c = from + i < text.length() ? text.charAt(from + i) : 32;
                    words[i / 4] = words[i / 4] << 8 | c;
                }
                call("feed", words);
            }
            call("end", text.length());
            call("text", chance.nextInt(30) == 0 ? pick(0, 3) : k);
            faults.merge("fault " + call("fault", 0), 1, Integer::sum);
            call("fault", 1);
        }

        String spoil(String text) {
            StringBuilder b = new StringBuilder(text);
            int at = b.length() == 0 ? 0 : chance.nextInt(b.length());
            String[] bits = {" ", ";", "(", "not ", "0", "12345", "Go", "go", " when ", "/0", "9", "\u00e9", "\t", ".", "\n", "gone", "in", "weak", "load", "since", "all all all all all all all all"};
            switch (chance.nextInt(3)) {
                case 0: b.insert(at, bits[chance.nextInt(bits.length)]); break;
                case 1: if (b.length() > 0) b.deleteCharAt(at); break;
                default: b.setLength(at); break;
            }
            return b.toString();
        }

        String blank() {
            String[] blanks = {" ", " ", " ", "  ", "\n"};
            return blanks[chance.nextInt(blanks.length)];
        }

        String lines(boolean law) {
            if (chance.nextInt(3) > 0) {
                return tame(law);
            }
            StringBuilder b = new StringBuilder();
            int many = chance.nextInt(25) == 0 ? 15 + chance.nextInt(4) : chance.nextInt(4);
            for (int i = 0; i < many; i++) {
                b.append(law ? "go" : "change").append(blank()).append(many > 6 ? "1" : sum(law));
                if (many <= 6 && (i < many - 1 || chance.nextInt(4) == 0)) {
                    b.append(blank()).append("when").append(blank()).append(either(law, 0));
                }
                b.append(chance.nextBoolean() ? ";" : " ; ");
            }
            return b.toString();
        }

        /** Lines whose answers are seldom held at an end. */
        String tame(boolean law) {
            StringBuilder b = new StringBuilder();
            for (int i = chance.nextInt(3); i >= 0; i--) {
                b.append(law ? "go " + chance.nextInt(30) : "change gone * " + chance.nextInt(9) + " + age / 3 - " + chance.nextInt(3));
                for (int j = chance.nextInt(3); j >= 0; j--) {
                    b.append(chance.nextInt(4) == 0 ? " - " : " + ").append(unit(law));
                    b.append(chance.nextBoolean() ? "*" : "/").append(1 + chance.nextInt(law ? 20 : 4));
                }
                b.append(i > 0 ? " when " + either(law, 0) + ";" : ";");
            }
            return b.toString();
        }

        String sum(boolean law) {
            StringBuilder b = new StringBuilder(product(law));
            for (int i = chance.nextInt(3); i > 0; i--) {
                b.append(chance.nextBoolean() ? " + " : "-").append(product(law));
            }
            return b.toString();
        }

        String product(boolean law) {
            StringBuilder b = new StringBuilder(unit(law));
            for (int i = chance.nextInt(3); i > 0; i--) {
                b.append(chance.nextInt(2) == 0 ? "*" + unit(law) : "/ " + chance.nextInt(30));
            }
            return b.toString();
        }

        String unit(boolean law) {
            List<String> names = law ? Oracle.LAW : Oracle.RULE;
            int kind = chance.nextInt(5);
            if (kind < 3) {
                return names.get(chance.nextInt(names.size()));
            }
            return Integer.toString(kind == 3 ? chance.nextInt(12) : chance.nextInt(chance.nextInt(20) == 0 ? 10000 : 300));
        }

        String either(boolean law, int depth) {
            StringBuilder b = new StringBuilder(both(law, depth));
            for (int i = chance.nextInt(3) - 1; i > 0; i--) {
                b.append(" or ").append(both(law, depth));
            }
            return b.toString();
        }

        String both(boolean law, int depth) {
            StringBuilder b = new StringBuilder(clause(law, depth));
            for (int i = chance.nextInt(3) - 1; i > 0; i--) {
                b.append(" and ").append(clause(law, depth));
            }
            return b.toString();
        }

        String clause(boolean law, int depth) {
            int kind = chance.nextInt(depth > 9 ? 1 : 4);
            if (kind == 1) {
                return "not " + clause(law, depth + 1);
            }
            if (kind == 2) {
                return "(" + either(law, depth + 1) + ")";
            }
            return sum(law) + "<=>".charAt(chance.nextInt(3)) + sum(law);
        }

        String breaks() {
            StringBuilder b = new StringBuilder();
            for (int i = chance.nextInt(20) == 0 ? 7 + chance.nextInt(4) : 1 + chance.nextInt(chance.nextInt(3)  == 0 ? 4 : 2); i > 0; i--) {
                switch (chance.nextInt(3)) {
                    case 0: b.append("side ").append(pick(2, 8) & 15).append(blank()); break;
                    case 1: b.append("any").append(blank()).append(pick(2, 4) & 15).append(" in").append(blank()).append(pick(3, 8) & 15); break;
                    default: shape(b); break;
                }
                b.append(";");
            }
            return b.toString();
        }

        String edgyLines(boolean law) {
            StringBuilder b = new StringBuilder();
            int many = chance.nextInt(3) == 0 ? 15 + chance.nextInt(3) : 1 + chance.nextInt(3);
            String[] sums = {"1", "age/0", "age / 00", "age/0000", "age/1", "age/00000", "9999", "10000", "age*0/3", "age/age", "-1", "age-1"};
            for (int i = 0; i < many; i++) {
                b.append(law ? "go " : "change ");
                if (many > 3) {
                    b.append(chance.nextInt(60) == 0 ? "age/0" : "1").append(';');
                } else {
                    b.append(sums[chance.nextInt(sums.length)]).append(chance.nextBoolean() ? "" : " when " + nested()).append(';');
                }
            }
            return b.toString();
        }

        /** About eight ( and not that are open at once. */
        String nested() {
            StringBuilder b = new StringBuilder();
            int open = 0;
            for (int i = 5 + chance.nextInt(5); i > 0; i--) {
                boolean isNot = chance.nextBoolean();
                b.append(isNot ? "not " : "(");
                open += isNot ? 0 : 1;
            }
            b.append("age<3");
            for (int i = 0; i < open; i++) {
                b.append(chance.nextInt(4) == 0 ? " or not (age=2))" : ")");
            }
            return b.toString();
        }

        String edgyBreaks() {
            StringBuilder b = new StringBuilder();
            String[] numbers = {"0", "1", "2", "3", "7", "8", "9", "0008", "00008", "9999"};
            int many = chance.nextInt(3) == 0 ? 7 + chance.nextInt(3) : 1 + chance.nextInt(3);
            for (int i = 0; i < many; i++) {
                int safe = many > 3 && chance.nextInt(12) > 0 ? 3 : chance.nextInt(3);
                switch (safe) {
                    case 0: b.append("side ").append(numbers[chance.nextInt(numbers.length)]); break;
                    case 1: b.append("any ").append(numbers[chance.nextInt(7)]).append(" in ").append(numbers[chance.nextInt(7)]); break;
                    case 2: b.append("shape").append(" all gone there".substring(0, 4 + 5 * chance.nextInt(2)).repeat(chance.nextInt(6))); break;
                    default: b.append("side 4");
                }
                b.append(';');
            }
            return b.toString();
        }

        void shape(StringBuilder b) {
            b.append("shape");
            for (int i = chance.nextInt(25) == 0 ? chance.nextInt(9) : 2 + chance.nextInt(4); i >= 0; i--) {
                String[] parts = {" gone", " there", " all"};
                b.append(parts[chance.nextInt(3)]);
            }
        }
    }
}
