import java.util.ArrayList;
import java.util.Arrays;
import java.util.HashMap;
import java.util.HashSet;
import java.util.List;
import java.util.Map;
import java.util.Random;
import java.util.Set;
import java.util.regex.Matcher;
import java.util.regex.Pattern;

/** Chance runs (always the same ones) of calls, each answer compared with that of a slow, plain model. */
public final class BellYardsModel {
    private static final int RUNS = 1500;
    private static final int CALLS = 400;
    private static int wrong = 0;

    private static final class Bell {
        int parish, weight, year, tin, listed = -1, days = 5, due = 999;
        int[] tones = {-1, -1, -1, -1, -1};
        List<int[]> changes = new ArrayList<>();

        int was(int week) {
            int state = 0;
            for (int[] c : changes) {
                if (c[0] <= week) {
                    state = c[1];
                }
            }
            return state;
        }
    }

    private static final class Part {
        char kind;
        int year, amount, week;
    }

    private static final class Unnamed {
        int[] tones;
        int e, weight, w;
    }

    /** The best laying of some unnamed ones: how many, the differences, the bells (20: none). */
    private static final class Laid {
        int number, difference;
        List<Integer> bells = new ArrayList<>();

        boolean betterThan(Laid other) {
            if (number != other.number) {
                return number > other.number;
            }
            if (difference != other.difference) {
                return difference < other.difference;
            }
            for (int i = 0; i < bells.size(); i++) {
                if (!bells.get(i).equals(other.bells.get(i))) {
                    return bells.get(i) < other.bells.get(i);
                }
            }
            return false;
        }
    }

    private static final class Model {
        int week, found, t = 20, scale = 2741;
        List<Integer> lands = new ArrayList<>();
        List<Bell> bells = new ArrayList<>();
        List<Unnamed> unnamed = new ArrayList<>();
        List<int[]> batches = new ArrayList<>();
        List<int[]> claims = new ArrayList<>();
        int[] ranks = {0, 1, 2, 3, 4};
        String text = "";
        Object[] sheets = new Object[4];

        int finding(int n) {
            found = n;
            return -10 - n;
        }

        boolean in(int v, int a, int b) {
            return a <= v && v <= b;
        }

        boolean isBell(int b) {
            return in(b, 0, bells.size() - 1);
        }

        boolean isParish(int p) {
            return in(p, 0, lands.size() - 1);
        }

        int size(int s) {
            return java.lang.reflect.Array.getLength(sheets[s]);
        }

        int form(int s) {
            return sheets[s] instanceof byte[] ? 0 : sheets[s] instanceof short[] ? 1 : 2;
        }

        int item(int s, int i) {
            return ((Number) java.lang.reflect.Array.get(sheets[s], i)).intValue();
        }

        void store(int s, int i, int v) {
            if (form(s) == 0) {
                ((byte[]) sheets[s])[i] = (byte) v;
            } else if (form(s) == 1) {
                ((short[]) sheets[s])[i] = (short) v;
            } else {
                ((int[]) sheets[s])[i] = v;
            }
        }

        int bell(int parish, int weight, int year, int tin) {
            if (!isParish(parish) || !in(weight, 1, 9999) || !in(year, 1000, 1939) || !in(tin, 0, 30)) {
                return -2;
            }
            if (bells.size() == 20) {
                return -4;
            }
            Bell b = new Bell();
            b.parish = parish;
            b.weight = weight;
            b.year = year;
            b.tin = tin;
            bells.add(b);
            return bells.size() - 1;
        }

        int read(int s) {
            if (!in(s, 0, 3)) {
                return -2;
            }
            if (sheets[s] == null) {
                return finding(1);
            }
            int done = 0;
            while (4 * done + 3 < size(s)
                && bell(item(s, 4 * done), item(s, 4 * done + 1), item(s, 4 * done + 2), item(s, 4 * done + 3)) >= 0) {
                done++;
            }
            return done;
        }

        int tone(int b, int k, int v) {
            if (!isBell(b) || !in(k, 0, 4) || !in(v, -1, 9999)) {
                return -1000;
            }
            int before = bells.get(b).tones[k];
            bells.get(b).tones[k] = v;
            return before;
        }

        int about(int b, int what) {
            if (!isBell(b) || !in(what, 0, 8)) {
                return -1000;
            }
            Bell x = bells.get(b);
            return new int[] {x.parish, x.weight, x.year, x.tin, x.was(week), x.listed, x.changes.size(), x.days,
                x.due}[what];
        }

        int become(int b, int state) {
            if (!isBell(b) || !in(state, 0, 5)) {
                return -2;
            }
            int before = bells.get(b).was(week);
            if (!Arrays.asList("01", "02", "51", "52", "10", "12", "23", "34", "35").contains("" + before + state)) {
                return -3;
            }
            if (bells.get(b).changes.size() == 16) {
                return -4;
            }
            bells.get(b).changes.add(new int[] {week, state});
            return before;
        }

        static final String PART = "(?:[abc]=\\d{4},\\d{1,4}|k=\\d)(?:@\\d{1,3})?";
        static final Pattern TEXT = Pattern.compile("(?:" + PART + "(?:;" + PART + ")*)?");
        static final Pattern NUMBERS = Pattern.compile("=(\\d{4})|,(\\d{1,4})|@(\\d{1,3})");

        /** The longest beginning with which the text can still become well tells the place. */
        int fault() {
            int end = 0;
            while (end < text.length() && canBecomeWell(text.substring(0, end + 1))) {
                end++;
            }
            boolean well = end == text.length() && TEXT.matcher(text).matches();
            Matcher m = NUMBERS.matcher(text.substring(0, end));
            while (m.find()) {
                boolean may = m.group(1) != null ? in(Integer.parseInt(m.group(1)), 1000, 1939)
                    : m.group(2) != null ? in(Integer.parseInt(m.group(2)), 1, 9999)
                    : in(Integer.parseInt(m.group(3)), 0, 199);
                if (!may) {
                    return m.start() + 1;
                }
            }
            return well ? -1 : end;
        }

        static boolean canBecomeWell(String some) {
            Matcher m = TEXT.matcher(some);
            return m.matches() || m.hitEnd();
        }

        List<Part> parts() {
            List<Part> all = new ArrayList<>();
            if (fault() != -1 || text.isEmpty()) {
                return all;
            }
            for (String one : text.split(";")) {
                Part p = new Part();
                String[] halves = one.split("@");
                p.week = halves.length == 2 ? Integer.parseInt(halves[1]) : 0;
                p.kind = one.charAt(0);
                String[] numbers = halves[0].substring(2).split(",");
                p.year = Integer.parseInt(numbers[0]);
                p.amount = Integer.parseInt(numbers[numbers.length - 1]);
                all.add(p);
            }
            return all;
        }

        int why(int b, int at) {
            if (!isBell(b) || !in(at, 0, 199)) {
                return -2;
            }
            List<Part> parts = parts();
            for (char kind = 'a'; kind <= 'c'; kind++) {
                int last = -1;
                for (int i = 0; i < parts.size(); i++) {
                    if (parts.get(i).kind == kind && parts.get(i).week <= at) {
                        last = i;
                    }
                }
                if (last >= 0 && bells.get(b).year >= parts.get(last).year
                    && bells.get(b).weight >= parts.get(last).amount) {
                    return last;
                }
            }
            return -1;
        }

        int letter(int b, int at) {
            int p = why(b, at);
            return p == -2 ? -2 : p == -1 ? 3 : parts().get(p).kind - 'a';
        }

        int kept(int parish, int at) {
            if (!isParish(parish) || !in(at, 0, week)) {
                return -2;
            }
            int k = 1;
            for (Part p : parts()) {
                if (p.kind == 'k' && p.week <= at) {
                    k = p.amount;
                }
            }
            List<Integer> mine = new ArrayList<>();
            for (int b = 0; b < bells.size(); b++) {
                if (bells.get(b).parish == parish && bells.get(b).was(at) != 4) {
                    mine.add(b);
                }
            }
            mine.sort((x, y) -> bells.get(x).weight - bells.get(y).weight);
            int bits = 0;
            for (int i = 0; i < Math.min(k, mine.size()); i++) {
                bits |= 1 << mine.get(i);
            }
            return bits;
        }

        int gained(int parish, int at) {
            if (!isParish(parish) || !in(at, 0, 199)) {
                return Integer.MIN_VALUE;
            }
            int sum = 0;
            for (int b = 0; b < bells.size(); b++) {
                Bell x = bells.get(b);
                if (x.parish == parish && x.listed >= 0) {
                    sum += x.weight * (x.listed - letter(b, at));
                }
            }
            return sum;
        }

        int find(int s, int e, int weight, int w) {
            if (!in(s, 0, 3) || !in(e, 0, 99) || weight == 0 || !in(weight, -1, 9999) || !in(w, 0, 999)) {
                return -2;
            }
            if (sheets[s] == null) {
                return finding(1);
            }
            if (size(s) < 5) {
                return finding(2);
            }
            if (unnamed.size() == 8) {
                return -4;
            }
            Unnamed u = new Unnamed();
            u.e = e;
            u.weight = weight;
            u.w = w;
            u.tones = new int[5];
            for (int k = 0; k < 5; k++) {
                u.tones[k] = in(item(s, k), 0, 9999) ? item(s, k) : -1;
            }
            unnamed.add(u);
            return unnamed.size() - 1;
        }

        /** The sum of differences, or -1 where it could not be that bell. */
        int distance(Unnamed u, Bell b) {
            if (b.was(week) != 3 || u.weight != -1 && Math.abs(u.weight - b.weight) > u.w) {
                return -1;
            }
            int sum = 0;
            for (int k = 0; k < 5; k++) {
                if (u.tones[k] >= 0 && b.tones[k] >= 0) {
                    int d = Math.abs(u.tones[k] - b.tones[k]);
                    if (d > u.e) {
                        return -1;
                    }
                    sum += d;
                }
            }
            return sum;
        }

        int could(int u) {
            if (!in(u, 0, unnamed.size() - 1)) {
                return -2;
            }
            int bits = 0;
            for (int b = 0; b < bells.size(); b++) {
                if (distance(unnamed.get(u), bells.get(b)) >= 0) {
                    bits |= 1 << b;
                }
            }
            return bits;
        }

        int next(int u) {
            if (!in(u, 0, unnamed.size() - 1)) {
                return -2;
            }
            int bits = could(u);
            int best = -1;
            int least = 99;
            for (int k = 0; k < 5 && Integer.bitCount(bits) > 1; k++) {
                if (unnamed.get(u).tones[k] < 0) {
                    Map<Integer, Integer> sizes = new HashMap<>();
                    int greatest = 0;
                    for (int b = 0; b < bells.size(); b++) {
                        if ((bits >> b & 1) == 1) {
                            int v = bells.get(b).tones[k];
                            greatest = Math.max(greatest,
                                sizes.merge(v < 0 ? -1 : v / (2 * unnamed.get(u).e + 1), 1, Integer::sum));
                        }
                    }
                    if (greatest < least) {
                        least = greatest;
                        best = k;
                    }
                }
            }
            return best;
        }

        Laid lay(int u, int used, Map<Integer, Laid> known) {
            if (u == unnamed.size()) {
                return new Laid();
            }
            Laid best = known.get(used << 4 | u);
            if (best != null) {
                return best;
            }
            for (int b = 0; b <= 20; b++) {
                int d = b == 20 ? 0 : b < bells.size() && (used >> b & 1) == 0
                    ? distance(unnamed.get(u), bells.get(b)) : -1;
                if (d >= 0) {
                    Laid rest = lay(u + 1, b == 20 ? used : used | 1 << b, known);
                    Laid mine = new Laid();
                    mine.number = rest.number + (b == 20 ? 0 : 1);
                    mine.difference = rest.difference + d;
                    mine.bells.add(b);
                    mine.bells.addAll(rest.bells);
                    if (best == null || mine.betterThan(best)) {
                        best = mine;
                    }
                }
            }
            known.put(used << 4 | u, best);
            return best;
        }

        int laying(int what) {
            Laid all = lay(0, 0, new HashMap<>());
            return what == 0 ? all.number : what == 1 ? all.difference : -2;
        }

        int laid(int u) {
            if (!in(u, 0, unnamed.size() - 1)) {
                return -2;
            }
            int b = lay(0, 0, new HashMap<>()).bells.get(u);
            return b == 20 ? -1 : b;
        }

        boolean rings(int b) {
            int state = bells.get(b).was(week);
            return (state == 0 || state == 5) && bells.get(b).tones[4] >= 0;
        }

        int ground(int parish) {
            int best = -1;
            for (int b = bells.size() - 1; b >= 0; b--) {
                if (bells.get(b).parish == parish && rings(b)
                    && (best < 0 || bells.get(b).weight >= bells.get(best).weight)) {
                    best = b;
                }
            }
            return best;
        }

        int step(int parish, int b) {
            if (!isParish(parish) || !isBell(b)) {
                return -2;
            }
            int ground = ground(parish);
            if (ground < 0 || bells.get(b).tones[4] < 0) {
                return -1;
            }
            int d = (bells.get(b).tones[4] - bells.get(ground).tones[4] + 12000) % 1200;
            for (int k = 0; k <= 12; k++) {
                if (d >= 100 * k - t && d <= 100 * k + t) {
                    return k % 12;
                }
            }
            return -1;
        }

        int peal(int parish, int what) {
            if (!isParish(parish) || !in(what, 0, 5)) {
                return -1000;
            }
            int ring = 0;
            int out = 0;
            Set<Integer> rung = new HashSet<>();
            for (int b = 0; b < bells.size(); b++) {
                if (bells.get(b).parish == parish && rings(b)) {
                    ring++;
                    int step = step(parish, b);
                    if (step < 0) {
                        out++;
                    } else {
                        rung.add(step);
                    }
                }
            }
            int missing = 0;
            boolean whole = ring > 0 && out == 0;
            for (int k = 0; k < 12; k++) {
                boolean wanted = (scale >> k & 1) == 1;
                whole &= wanted == rung.contains(k);
                missing |= wanted && !rung.contains(k) ? 1 << k : 0;
            }
            int fill = -1;
            for (int b = 0; b < bells.size(); b++) {
                int state = bells.get(b).was(week);
                int step = step(parish, b);
                if ((state == 2 || state == 3) && step >= 0 && (missing >> step & 1) == 1
                    && (fill < 0 || bells.get(b).weight > bells.get(fill).weight)) {
                    fill = b;
                }
            }
            return new int[] {ring, ground(parish), out, missing, whole ? 1 : 0, fill}[what];
        }

        int batch(int weight, int d, int from, int to, int bits) {
            if (!in(weight, 0, 99999) || !in(d, 0, 9999) || from < 0 || to > 100 || from > to || bits <= 0
                || bits >= 1 << bells.size() || Integer.bitCount(bits) > 12) {
                return -2;
            }
            if (batches.size() == 6) {
                return -4;
            }
            batches.add(new int[] {weight, d, from, to, bits});
            return batches.size() - 1;
        }

        List<Integer> setsOf(int[] batch) {
            List<Integer> sets = new ArrayList<>();
            for (int set = 0; set < 1 << bells.size(); set = (set | ~batch[4]) + 1 & batch[4]) {
                int weight = 0;
                int tin = 0;
                for (int b = 0; b < bells.size(); b++) {
                    if ((set >> b & 1) == 1) {
                        weight += bells.get(b).weight;
                        tin += bells.get(b).weight * bells.get(b).tin;
                    }
                }
                if (Math.abs(weight - batch[0]) <= batch[1] && batch[2] * weight <= tin && tin <= batch[3] * weight) {
                    sets.add(set);
                }
                if (set == batch[4]) {
                    break;
                }
            }
            return sets;
        }

        int sets(int batch, int what) {
            if (!in(batch, 0, batches.size() - 1) || !in(what, 0, 1)) {
                return -2;
            }
            List<Integer> sets = setsOf(batches.get(batch));
            return what == 0 ? sets.size() : sets.isEmpty() ? -1 : sets.get(0);
        }

        int held(int batch, int b) {
            if (!in(batch, 0, batches.size() - 1) || !isBell(b)) {
                return -2;
            }
            List<Integer> sets = setsOf(batches.get(batch));
            int with = 0;
            for (int set : sets) {
                with += set >> b & 1;
            }
            return with == 0 ? 0 : with == sets.size() ? 2 : 1;
        }

        /** For each bell the week (-1), then the first short week, then how many; short goes to total. */
        int[] melting(int s, long[] total) {
            int[] weeks = new int[bells.size() + 2];
            Arrays.fill(weeks, -1);
            int n = bells.size();
            weeks[n + 1] = 0;
            long stock = 0;
            for (int at = 0; at < size(s); at++) {
                long need = Math.max(0, item(s, at));
                List<Integer> open = new ArrayList<>();
                for (int b = 0; b < n; b++) {
                    int state = bells.get(b).was(week);
                    if (weeks[b] < 0 && (state == 2 || state == 3)) {
                        open.add(b);
                    }
                }
                if (stock < need) {
                    int then = at;
                    open.sort((x, y) -> letter(x, then) != letter(y, then) ? letter(x, then) - letter(y, then)
                        : bells.get(x).weight != bells.get(y).weight ? bells.get(y).weight - bells.get(x).weight
                        : x - y);
                }
                while (stock < need && !open.isEmpty()) {
                    int b = open.remove(0);
                    weeks[b] = at;
                    weeks[n + 1]++;
                    stock += bells.get(b).weight;
                }
                if (stock < need) {
                    total[0] += need - stock;
                    weeks[n] = weeks[n] < 0 ? at : weeks[n];
                    stock = 0;
                } else {
                    stock -= need;
                }
            }
            return weeks;
        }

        int melts(int s, int b) {
            if (!in(s, 0, 3) || !isBell(b)) {
                return -2;
            }
            return sheets[s] == null ? finding(1) : melting(s, new long[1])[b];
        }

        int shorts(int s, int what) {
            if (!in(s, 0, 3) || !in(what, 0, 2)) {
                return -2;
            }
            if (sheets[s] == null) {
                return finding(1);
            }
            long[] total = new long[1];
            int[] weeks = melting(s, total);
            return what == 0 ? (int) Math.min(1000000000L, total[0]) : weeks[bells.size() + what - 1];
        }

        /** A set can be sent, if one of it can be the last, and the others can be sent before. */
        int sent(int what) {
            if (!in(what, 0, 2)) {
                return -2;
            }
            List<Integer> yard = new ArrayList<>();
            for (int b = 0; b < bells.size() && yard.size() < 10; b++) {
                if (bells.get(b).was(week) == 3) {
                    yard.add(b);
                }
            }
            boolean[] can = new boolean[1 << yard.size()];
            can[0] = true;
            int[] best = {0, 0, 0};
            for (int set = 0; set < can.length; set++) {
                int days = 0;
                int weight = 0;
                int bits = 0;
                for (int k = 0; k < yard.size(); k++) {
                    if ((set >> k & 1) == 1) {
                        days += bells.get(yard.get(k)).days;
                        weight += bells.get(yard.get(k)).weight;
                        bits |= 1 << yard.get(k);
                    }
                }
                for (int k = 0; k < yard.size(); k++) {
                    can[set] |= (set >> k & 1) == 1 && can[set ^ 1 << k] && days <= bells.get(yard.get(k)).due;
                }
                int number = Integer.bitCount(set);
                // Sets come in the order of their bits, so a like one that comes later is not better.
                if (can[set] && (number > best[1] || number == best[1] && weight > best[2])) {
                    best = new int[] {bits, number, weight};
                }
            }
            return best[what];
        }

        int whose(int b, int at) {
            if (!isBell(b) || !in(at, 0, 199)) {
                return -2;
            }
            int least = 99;
            Set<Integer> who = new HashSet<>();
            for (int[] c : claims) {
                if (c[1] == b && c[3] <= at) {
                    if (ranks[c[2]] < least) {
                        who.clear();
                        least = ranks[c[2]];
                    }
                    if (ranks[c[2]] == least) {
                        who.add(c[0]);
                    }
                }
            }
            return who.isEmpty() ? -3 : who.size() > 1 ? -1 : who.iterator().next();
        }

        int landsOf(int b, int at) {
            if (!isBell(b) || !in(at, 0, 199)) {
                return -2;
            }
            Set<Integer> all = new HashSet<>();
            for (int[] c : claims) {
                if (c[1] == b && c[3] <= at) {
                    all.add(lands.get(c[0]));
                }
            }
            return all.size();
        }

        int sheet(int s, int form, int n) {
            if (!in(s, 0, 3) || !in(form, 0, 2) || n > 60) {
                return -2;
            }
            if (n < 0) {
                return finding(5);
            }
            sheets[s] = form == 0 ? new byte[n] : form == 1 ? new short[n] : new int[n];
            return n;
        }

        int put(int s, int form, int i, int v) {
            if (!in(s, 0, 3) || !in(form, 0, 2)) {
                return -2;
            }
            int f = sheets[s] == null ? 1 : form(s) != form ? 3 : !in(i, 0, size(s) - 1) ? 2 : 0;
            if (f != 0) {
                return finding(f);
            }
            store(s, i, v);
            return 1;
        }

        int get(int s, int form, int i) {
            if (!in(s, 0, 3) || !in(form, 0, 2)) {
                return Integer.MIN_VALUE;
            }
            int f = sheets[s] == null ? 1 : form(s) != form ? 3 : !in(i, 0, size(s) - 1) ? 2 : 0;
            if (f != 0) {
                found = f;
                return Integer.MIN_VALUE;
            }
            return item(s, i);
        }

        int copy(int s, int i, int to, int j, int n) {
            if (!in(s, 0, 3) || !in(to, 0, 3)) {
                return -2;
            }
            if (sheets[s] == null || sheets[to] == null) {
                return finding(1);
            }
            if (form(s) != form(to)) {
                return finding(4);
            }
            if (i < 0 || j < 0 || n < 0 || (long) i + n > size(s) || (long) j + n > size(to)) {
                return finding(2);
            }
            int[] items = new int[n];
            for (int k = 0; k < n; k++) {
                items[k] = item(s, i + k);
            }
            for (int k = 0; k < n; k++) {
                store(to, j + k, items[k]);
            }
            return 1;
        }

        int write(int s, int at) {
            if (!in(s, 0, 3) || !in(at, 0, 199)) {
                return -2;
            }
            if (sheets[s] == null) {
                return finding(1);
            }
            int n = 0;
            for (; n < bells.size() && n < size(s); n++) {
                store(s, n, letter(n, at));
            }
            return n;
        }

        int count(int what) {
            int yard = 0;
            int melted = 0;
            for (Bell b : bells) {
                yard += b.was(week) == 3 ? 1 : 0;
                melted += b.was(week) == 4 ? 1 : 0;
            }
            int[] all = {week, lands.size(), bells.size(), yard, melted, unnamed.size(), batches.size(),
                claims.size(), found, text.length()};
            return in(what, 0, 9) ? all[what] : -2;
        }

        long digest() {
            List<Integer> all = new ArrayList<>();
            for (int what = 0; what <= 9; what++) {
                if (what != 8) {
                    all.add(count(what));
                }
            }
            for (int p = 0; p < lands.size(); p++) {
                all.add(lands.get(p));
                for (int what = 0; what <= 5; what++) {
                    all.add(peal(p, what));
                }
                all.add(kept(p, week));
            }
            for (int b = 0; b < bells.size(); b++) {
                for (int what = 0; what <= 8; what++) {
                    all.add(about(b, what));
                }
                for (int v : bells.get(b).tones) {
                    all.add(v);
                }
                all.add(letter(b, week));
            }
            all.addAll(List.of(fault(), laying(0), laying(1), sent(0)));
            long h = 17;
            for (int v : all) {
                h = 31 * h + v;
            }
            return h;
        }
    }

    private static final class Run {
        final Random chance;
        final Model m = new Model();
        final BellYards x = new BellYards();
        final int number;
        final List<String> calls = new ArrayList<>();

        Run(int number) {
            this.number = number;
            chance = new Random(number);
        }

        void same(String call, long got, long want) {
            calls.add(call + " = " + got);
            if (got != want) {
                wrong++;
                System.out.println("run " + number + ": " + call + " answered " + got + ", due is " + want);
                if (wrong == 1) {
                    calls.forEach(System.out::println);
                }
            }
        }

        /** Mostly from least to most, now and then just beside or far off. */
        int some(int least, int most) {
            int kind = chance.nextInt(100);
            if (kind == 0) {
                return least - 1;
            }
            if (kind == 1) {
                return most + 1;
            }
            if (kind == 2) {
                return chance.nextInt();
            }
            if (kind == 3) {
                return chance.nextBoolean() ? Integer.MIN_VALUE : Integer.MAX_VALUE;
            }
            return most < least ? least : least + chance.nextInt(most - least + 1);
        }

        int bell() {
            return some(0, m.bells.size() - 1);
        }

        int parish() {
            return some(0, m.lands.size() - 1);
        }

        int weight() {
            return chance.nextInt(10) == 0 ? some(1, 9999) : 100 * (1 + chance.nextInt(6)) + chance.nextInt(3);
        }

        int year() {
            return chance.nextInt(10) == 0 ? some(1000, 1939) : 1800 + chance.nextInt(4);
        }

        int toneValue() {
            int kind = chance.nextInt(8);
            return kind == 0 ? some(0, 9999) : kind == 1 ? -1 : 1000 + 100 * chance.nextInt(14) + chance.nextInt(25);
        }

        /** Tones that are near to one another, so that unnamed ones could be several bells. */
        int narrowTone() {
            int kind = chance.nextInt(12);
            return kind == 0 ? some(0, 9999) : kind < 4 ? -1 : 500 + chance.nextInt(60);
        }

        int week() {
            return chance.nextInt(4) == 0 ? some(0, 199) : some(0, Math.max(1, m.week));
        }

        int form(int s) {
            return s >= 0 && s < 4 && m.sheets[s] != null && chance.nextInt(15) > 0 ? m.form(s) : some(0, 2);
        }

        void go() {
            int calls = 50 + chance.nextInt(CALLS);
            if (number % 3 == 0) {
                for (int p = 0; p < 3; p++) {
                    parishes();
                }
            } else if (number % 3 == 1) {
                fullYard();
            } else {
                fullTowers();
            }
            for (int c = 0; c < calls && wrong == 0; c++) {
                switch (chance.nextInt(9)) {
                    case 0: parishes(); break;
                    case 1: bellStates(); break;
                    case 2: laws(); break;
                    case 3: lawQuestions(); break;
                    case 4: unnamed(); break;
                    case 5: peals(); break;
                    case 6: batches(); break;
                    case 7: sendingAndClaims(); break;
                    default: sheets(); break;
                }
            }
            same("digest()", x.digest(), m.digest());
        }

        void firstBells(int parishes, int bells) {
            for (int p = 0; p < parishes; p++) {
                int land = chance.nextInt(4);
                m.lands.add(land);
                same("parish(" + land + ")", x.parish(land), p);
            }
            for (int b = 0; b < bells; b++) {
                int p = chance.nextInt(parishes);
                int w = 100 + 50 * chance.nextInt(4);
                int y = year();
                int t = 10 * chance.nextInt(4);
                same("bell(" + p + ", " + w + ", " + y + ", " + t + ")", x.bell(p, w, y, t), m.bell(p, w, y, t));
            }
        }

        void firstTone(int b, int k, int v) {
            same("tone(" + b + ", " + k + ", " + v + ")", x.tone(b, k, v), m.tone(b, k, v));
        }

        /** Many bells in yards that many unnamed ones could be. */
        void fullYard() {
            int bells = number % 150 == 1 ? 20 : 6 + chance.nextInt(6);
            firstBells(2, bells);
            for (int b = 0; b < bells; b++) {
                for (int k = 0; k < 5; k++) {
                    firstTone(b, k, chance.nextInt(3) == 0 ? -1 : 500 + chance.nextInt(chance.nextBoolean() ? 60 : 6));
                }
                if (chance.nextInt(8) > 0) {
                    same("become(" + b + ", 2)", x.become(b, 2), m.become(b, 2));
                    same("become(" + b + ", 3)", x.become(b, 3), m.become(b, 3));
                }
            }
            int ones = 1 + chance.nextInt(8);
            for (int u = 0; u < ones; u++) {
                same("sheet(0, 2, 5)", x.sheet(0, 2, 5), m.sheet(0, 2, 5));
                for (int k = 0; k < 5; k++) {
                    int v = chance.nextInt(2) == 0 ? -1 : 500 + chance.nextInt(60);
                    same("put(0, 2, " + k + ", " + v + ")", x.put(0, 2, k, v), m.put(0, 2, k, v));
                }
                int e = chance.nextInt(60);
                int w = chance.nextInt(3) == 0 ? -1 : 100 + 50 * chance.nextInt(4);
                int d = 50 * chance.nextInt(4);
                same("find(0, " + e + ", " + w + ", " + d + ")", x.find(0, e, w, d), m.find(0, e, w, d));
            }
        }

        /** Peals of many bells, some of them whole or nearly so. */
        void fullTowers() {
            int bells = 6 + chance.nextInt(12);
            firstBells(1 + chance.nextInt(3), bells);
            int scale = 1 | 1 << chance.nextInt(12) | 1 << chance.nextInt(12);
            same("tune(1, " + scale + ")", x.tune(1, scale), m.scale);
            m.scale = scale;
            for (int b = 0; b < bells; b++) {
                int k = chance.nextInt(12);
                while (chance.nextInt(12) > 0 && (scale >> k & 1) == 0) {
                    k = chance.nextInt(12);
                }
                int off = chance.nextInt(5) == 0 ? chance.nextInt(100) : chance.nextInt(20);
                firstTone(b, 4, 3000 + 1200 * chance.nextInt(3) + 100 * k + off);
                if (chance.nextInt(4) == 0) {
                    same("become(" + b + ", 2)", x.become(b, 2), m.become(b, 2));
                }
            }
        }

        void parishes() {
            int a = some(0, 3);
            int p = parish();
            switch (chance.nextInt(5)) {
                case 0: {
                    int want = !m.in(a, 0, 3) ? -2 : m.lands.size() == 8 ? -4 : m.lands.size();
                    if (want >= 0) {
                        m.lands.add(a);
                    }
                    same("parish(" + a + ")", x.parish(a), want);
                    break;
                }
                case 1: {
                    boolean well = m.isParish(p) && m.in(a, 0, 3) && m.lands.get(p) != a;
                    int want = well ? m.lands.set(p, a) : -2;
                    same("moved(" + p + ", " + a + ")", x.moved(p, a), want);
                    break;
                }
                case 2: {
                    int n = chance.nextInt(30) == 0 ? some(1, 100) : some(1, 3);
                    boolean well = m.in(n, 1, 100) && m.week + n <= 199;
                    m.week += well ? n : 0;
                    same("pass(" + n + ")", x.pass(n), well ? m.week : -2);
                    break;
                }
                default: {
                    int w = weight();
                    int y = year();
                    int t = chance.nextInt(3) == 0 ? some(0, 30) : 10 * chance.nextInt(4);
                    same("bell(" + p + ", " + w + ", " + y + ", " + t + ")", x.bell(p, w, y, t), m.bell(p, w, y, t));
                    break;
                }
            }
        }

        void bellStates() {
            int b = bell();
            switch (chance.nextInt(8)) {
                case 0: case 1: {
                    int k = chance.nextInt(3) == 0 ? 4 : some(0, 4);
                    int v = k == 4 ? toneValue() : narrowTone();
                    same("tone(" + b + ", " + k + ", " + v + ")", x.tone(b, k, v), m.tone(b, k, v));
                    break;
                }
                case 2: {
                    int what = some(0, 8);
                    same("about(" + b + ", " + what + ")", x.about(b, what), m.about(b, what));
                    break;
                }
                case 3: {
                    int at = week();
                    int want = m.isBell(b) && m.in(at, 0, m.week) ? m.bells.get(b).was(at) : -2;
                    same("was(" + b + ", " + at + ")", x.was(b, at), want);
                    break;
                }
                default: {
                    int state = chance.nextInt(2) == 0 ? 2 + chance.nextInt(2) : some(0, 5);
                    same("become(" + b + ", " + state + ")", x.become(b, state), m.become(b, state));
                    break;
                }
            }
        }

        void type(int v) {
            int want = !m.in(v, 0, 255) ? -2 : m.text.length() == 100 ? -4 : m.text.length() + 1;
            if (want > 0) {
                m.text += (char) v;
            }
            same("type(" + v + ")", x.type(v), want);
            same("fault()", x.fault(), m.fault());
        }

        void laws() {
            if (chance.nextInt(3) == 0 && (m.fault() != -1 || m.text.length() > 80)) {
                int want = m.text.length();
                m.text = "";
                same("wipe()", x.wipe(), want);
                return;
            }
            if (chance.nextInt(12) == 0) {
                type(some(0, 255));
                return;
            }
            StringBuilder part = new StringBuilder(m.text.isEmpty() ? "" : ";");
            char kind = "abck".charAt(chance.nextInt(4));
            part.append(kind).append('=');
            if (kind == 'k') {
                part.append(chance.nextInt(10));
            } else {
                part.append(1798 + chance.nextInt(6)).append(',').append(chance.nextInt(500));
            }
            if (chance.nextBoolean()) {
                part.append('@').append(chance.nextInt(chance.nextInt(9) == 0 ? 220 : 20));
            }
            if (chance.nextInt(8) == 0) {
                part.setCharAt(chance.nextInt(part.length()), "abck=,;@0123456789x".charAt(chance.nextInt(19)));
            }
            for (int i = 0; i < part.length(); i++) {
                type(part.charAt(i));
            }
        }

        void lawQuestions() {
            int b = bell();
            int p = parish();
            int at = week();
            switch (chance.nextInt(6)) {
                case 0: same("letter(" + b + ", " + at + ")", x.letter(b, at), m.letter(b, at)); break;
                case 1: same("why(" + b + ", " + at + ")", x.why(b, at), m.why(b, at)); break;
                case 2: same("kept(" + p + ", " + at + ")", x.kept(p, at), m.kept(p, at)); break;
                case 3: {
                    int letter = some(-1, 3);
                    int want = -1000;
                    if (m.isBell(b) && m.in(letter, -1, 3)) {
                        want = m.bells.get(b).listed;
                        m.bells.get(b).listed = letter;
                    }
                    same("list(" + b + ", " + letter + ")", x.list(b, letter), want);
                    break;
                }
                case 4: same("gained(" + p + ", " + at + ")", x.gained(p, at), m.gained(p, at)); break;
                default: {
                    int s = some(0, 3);
                    same("write(" + s + ", " + at + ")", x.write(s, at), m.write(s, at));
                    break;
                }
            }
        }

        void unnamed() {
            int u = some(0, m.unnamed.size() - 1);
            switch (chance.nextInt(9)) {
                case 0: case 1: case 2: {
                    int s = some(0, 3);
                    if (chance.nextInt(4) > 0) {
                        int form = 1 + chance.nextInt(2);
                        same("sheet(" + s + ", " + form + ", 5)", x.sheet(s, form, 5), m.sheet(s, form, 5));
                        for (int k = 0; k < 5; k++) {
                            int v = chance.nextBoolean() ? -1 : k == 4 ? toneValue() : narrowTone();
                            same("put(" + s + ", " + form + ", " + k + ", " + v + ")", x.put(s, form, k, v),
                                m.put(s, form, k, v));
                        }
                    }
                    int e = chance.nextInt(3) == 0 ? some(0, 99) : chance.nextInt(30);
                    int w = chance.nextInt(3) == 0 ? -1 : weight();
                    int d = chance.nextInt(2) == 0 ? some(0, 999) : 100 * chance.nextInt(4);
                    same("find(" + s + ", " + e + ", " + w + ", " + d + ")", x.find(s, e, w, d), m.find(s, e, w, d));
                    break;
                }
                case 3: {
                    if (chance.nextInt(6) == 0) {
                        int want = m.unnamed.size();
                        m.unnamed.clear();
                        same("forget()", x.forget(), want);
                    }
                    break;
                }
                case 4: same("could(" + u + ")", x.could(u), m.could(u)); break;
                case 5: same("next(" + u + ")", x.next(u), m.next(u)); break;
                case 6: same("laying(0)", x.laying(0), m.laying(0)); break;
                case 7: {
                    int what = some(0, 1);
                    same("laying(" + what + ")", x.laying(what), m.laying(what));
                    break;
                }
                default: same("laid(" + u + ")", x.laid(u), m.laid(u)); break;
            }
        }

        void peals() {
            int p = parish();
            int b = bell();
            switch (chance.nextInt(5)) {
                case 0: {
                    int v = some(0, 49);
                    int want = m.in(v, 0, 49) ? m.t : -2;
                    m.t = want == -2 ? m.t : v;
                    same("tune(0, " + v + ")", x.tune(0, v), want);
                    break;
                }
                case 1: {
                    int v = chance.nextBoolean() ? some(0, 4095) : 1 | 1 << chance.nextInt(12) | 1 << chance.nextInt(12);
                    int want = m.in(v, 0, 4095) ? m.scale : -2;
                    m.scale = want == -2 ? m.scale : v;
                    same("tune(1, " + v + ")", x.tune(1, v), want);
                    break;
                }
                case 2: same("step(" + p + ", " + b + ")", x.step(p, b), m.step(p, b)); break;
                default: {
                    int what = some(0, 5);
                    same("peal(" + p + ", " + what + ")", x.peal(p, what), m.peal(p, what));
                    break;
                }
            }
        }

        void batches() {
            int s = some(0, 3);
            int b = bell();
            int batch = some(0, m.batches.size() - 1);
            switch (chance.nextInt(8)) {
                case 0: {
                    int w = chance.nextInt(9) == 0 ? some(0, 99999) : 100 * chance.nextInt(20);
                    int d = chance.nextInt(9) == 0 ? some(0, 9999) : chance.nextInt(300);
                    int from = chance.nextInt(9) == 0 ? some(0, 100) : 5 * chance.nextInt(5);
                    int to = chance.nextInt(9) == 0 ? some(0, 100) : 10 + 5 * chance.nextInt(6);
                    int bits = chance.nextInt(9) == 0 ? some(0, (1 << 20) - 1)
                        : chance.nextInt(1 << 20) & (1 << m.bells.size()) - 1;
                    same("batch(" + w + ", " + d + ", " + from + ", " + to + ", " + bits + ")",
                        x.batch(w, d, from, to, bits), m.batch(w, d, from, to, bits));
                    break;
                }
                case 1: case 2: {
                    int what = some(0, 1);
                    same("sets(" + batch + ", " + what + ")", x.sets(batch, what), m.sets(batch, what));
                    break;
                }
                case 3: same("held(" + batch + ", " + b + ")", x.held(batch, b), m.held(batch, b)); break;
                case 4: case 5: same("melts(" + s + ", " + b + ")", x.melts(s, b), m.melts(s, b)); break;
                default: {
                    int what = some(0, 2);
                    same("shorts(" + s + ", " + what + ")", x.shorts(s, what), m.shorts(s, what));
                    break;
                }
            }
        }

        void sendingAndClaims() {
            int b = bell();
            int at = week();
            switch (chance.nextInt(8)) {
                case 0: case 1: {
                    int what = some(0, 1);
                    int v = what == 0 ? (chance.nextBoolean() ? some(1, 99) : some(1, 9))
                        : chance.nextInt(4) == 0 ? some(0, 999) : some(0, 30);
                    int want = -2;
                    if (m.isBell(b) && what == 0 && m.in(v, 1, 99)) {
                        want = m.bells.get(b).days;
                        m.bells.get(b).days = v;
                    } else if (m.isBell(b) && what == 1 && m.in(v, 0, 999)) {
                        want = m.bells.get(b).due;
                        m.bells.get(b).due = v;
                    }
                    same("send(" + b + ", " + what + ", " + v + ")", x.send(b, what, v), want);
                    break;
                }
                case 2: case 3: {
                    int what = some(0, 2);
                    same("sent(" + what + ")", x.sent(what), m.sent(what));
                    break;
                }
                case 4: {
                    int p = parish();
                    b = chance.nextBoolean() ? 0 : b;
                    int proof = some(0, 4);
                    boolean well = m.isParish(p) && m.isBell(b) && m.in(proof, 0, 4) && m.in(at, 0, 199);
                    int want = !well ? -2 : m.claims.size() == 30 ? -4 : m.claims.size() + 1;
                    if (want > 0) {
                        m.claims.add(new int[] {p, b, proof, at});
                    }
                    same("claim(" + p + ", " + b + ", " + proof + ", " + at + ")", x.claim(p, b, proof, at), want);
                    break;
                }
                case 5: {
                    int proof = some(0, 4);
                    int r = some(0, 9);
                    int want = -2;
                    if (m.in(proof, 0, 4) && m.in(r, 0, 9)) {
                        want = m.ranks[proof];
                        m.ranks[proof] = r;
                    }
                    same("rank(" + proof + ", " + r + ")", x.rank(proof, r), want);
                    break;
                }
                case 6: b = chance.nextBoolean() ? 0 : b; same("whose(" + b + ", " + at + ")", x.whose(b, at), m.whose(b, at)); break;
                default: same("lands(" + b + ", " + at + ")", x.lands(b, at), m.landsOf(b, at)); break;
            }
        }

        void sheets() {
            int s = some(0, 3);
            int form = form(s);
            int size = m.in(s, 0, 3) && m.sheets[s] != null ? m.size(s) : 0;
            int i = some(0, size - 1);
            int v = chance.nextInt(6) == 0 ? chance.nextInt() : chance.nextInt(1000);
            switch (chance.nextInt(11)) {
                case 0: {
                    int n = chance.nextBoolean() ? some(0, 60) : some(0, 12);
                    same("sheet(" + s + ", " + form + ", " + n + ")", x.sheet(s, form, n), m.sheet(s, form, n));
                    break;
                }
                case 1: {
                    int want = !m.in(s, 0, 3) ? -2 : m.sheets[s] == null ? m.finding(1) : size;
                    if (want >= 0) {
                        m.sheets[s] = null;
                    }
                    same("lose(" + s + ")", x.lose(s), want);
                    break;
                }
                case 2: case 3: case 4:
                    same("put(" + s + ", " + form + ", " + i + ", " + v + ")", x.put(s, form, i, v),
                        m.put(s, form, i, v));
                    break;
                case 5: case 6:
                    same("get(" + s + ", " + form + ", " + i + ")", x.get(s, form, i), m.get(s, form, i));
                    break;
                case 7: {
                    int to = chance.nextBoolean() ? s : some(0, 3);
                    int j = some(0, 6);
                    int n = some(0, 6);
                    same("copy(" + s + ", " + i + ", " + to + ", " + j + ", " + n + ")", x.copy(s, i, to, j, n),
                        m.copy(s, i, to, j, n));
                    break;
                }
                case 8: {
                    if (m.in(s, 0, 3) && m.sheets[s] != null && size > 3 && m.form(s) > 0 && chance.nextBoolean()) {
                        int[] bell = {parish(), weight(), year(), some(0, 30)};
                        for (int k = 0; k < 4; k++) {
                            same("put", x.put(s, m.form(s), k, bell[k]), m.put(s, m.form(s), k, bell[k]));
                        }
                    }
                    same("read(" + s + ")", x.read(s), m.read(s));
                    break;
                }
                case 9: {
                    int what = some(0, 9);
                    same("count(" + what + ")", x.count(what), m.count(what));
                    break;
                }
                default: same("digest()", x.digest(), m.digest()); break;
            }
        }
    }

    public static void main(String[] args) {
        for (int run = 0; run < RUNS && wrong == 0; run++) {
            new Run(run).go();
        }
        System.out.println(wrong == 0 ? "the model answers alike" : wrong + " answers are not as the model's");
        if (wrong != 0) {
            System.exit(1);
        }
    }
}
