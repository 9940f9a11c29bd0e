import java.math.BigInteger;
import java.util.ArrayDeque;
import java.util.ArrayList;
import java.util.Arrays;
import java.util.List;
import java.util.Map;
import java.util.TreeMap;

/** The document told a second time, with objects, lists and copies and no care for speed: for comparison. */
public final class Plain {
    static class Walker {
        int figure;
        boolean lit;
        int cover() { return 1; }
        int holds() { return 3 + figure / 3; }
        int gives() { return 2; }
        boolean canBeLit() { return true; }
        int number() { return 0; }
    }
    static class Hooded extends Walker {
        int holds() { return super.holds() + 2; }
        int gives() { return super.gives() - 1; }
        int number() { return 1; }
    }
    static class Low extends Walker {
        int cover() { return 0; }
        int holds() { return super.holds() + 1; }
        int gives() { return super.gives() - 1; }
        int number() { return 2; }
    }
    static class Lantern extends Hooded {
        int holds() { return 99; }
        int gives() { return super.gives() + 2; }
        int number() { return 3; }
    }
    static class Tall extends Walker {
        int cover() { return 3; }
        int holds() { return super.holds() - 1; }
        int gives() { return super.gives() + 1; }
        int number() { return 4; }
    }
    static class Nun extends Low {
        int cover() { return super.cover() + 1; }
        int holds() { return super.holds() + figure / 2; }
        int number() { return 5; }
    }
    static class Small extends Low {
        boolean canBeLit() { return false; }
        int number() { return 6; }
    }

    static Walker made(int kind, int figure, boolean lit) {
        Walker w = switch (kind) {
            case 0 -> new Walker();
            case 1 -> new Hooded();
            case 2 -> new Low();
            case 3 -> new Lantern();
            case 4 -> new Tall();
            case 5 -> new Nun();
            case 6 -> new Small();
            default -> throw new IllegalStateException();
        };
        w.figure = figure;
        w.lit = lit && w.canBeLit();
        return w;
    }

    record Lighting(int who, int by) { }

    static final class World {
        List<Walker> people = new ArrayList<>();
        int form = 0, each = 1, door = 12, place = 0, minute = 0;
        int[] force = new int[25];
        int[] side = new int[25];
        List<Integer> outs = new ArrayList<>();
        List<Lighting> lightings = new ArrayList<>();

        World copy() {
            World w = new World();
            for (Walker p : people) w.people.add(made(p.number(), p.figure, p.lit));
            w.form = form; w.each = each; w.door = door; w.place = place; w.minute = minute;
            w.force = force.clone(); w.side = side.clone();
            return w;
        }
        int n() { return people.size(); }
        boolean has(int i) { return 0 <= i && i < n(); }
        int bits() {
            int b = 0;
            for (int i = 0; i < n(); i++) if (people.get(i).lit) b |= 1 << i;
            return b;
        }
        void setBits(int bits) {
            for (int i = 0; i < n(); i++) people.get(i).lit = (bits & 1 << i) != 0;
        }
        int many() { return Integer.bitCount(bits()); }
        int light() {
            int sum = 0;
            for (Walker p : people) if (p.lit) sum += p.gives();
            return sum;
        }
        boolean allGrownLit() {
            for (Walker p : people) if (p.canBeLit() && !p.lit) return false;
            return true;
        }
        List<Integer> beside(int i) {
            List<Integer> found = new ArrayList<>();
            for (int j = 0; j < n(); j++) {
                if (j == i) continue;
                boolean next = Math.abs(j - i) == 1;
                if (form == 1) next = next || Math.abs(j - i) == n() - 1;
                if (form == 2) next = j / 2 == i / 2 || Math.abs(j - i) == 2;
                if (next) found.add(j);
            }
            return found;
        }
        int coverer(int i, int at) {
            if (side[at] == 2) return -9;
            int by = i + (side[at] == 0 ? -1 : 1) * (form == 2 ? 2 : 1);
            if (form == 1) {
                if (by < 0) by = n() - 1;
                if (by >= n()) by = 0;
                return by == i ? -9 : by;
            }
            return has(by) ? by : -9;
        }
        int felt(int i, int at) {
            int by = coverer(i, at);
            int less = by == -9 ? 0 : people.get(by).cover();
            return Math.max(force[at] - less, 0);
        }
        boolean there() { return place == door; }
        void spread() {
            List<Integer> lit = new ArrayList<>();
            for (int i = 0; i < n(); i++) if (people.get(i).lit) lit.add(i);
            for (int i : lit) {
                int many = 0;
                for (int j : beside(i)) {
                    Walker p = people.get(j);
                    if (many < each && !p.lit && p.canBeLit()) {
                        p.lit = true;
                        many++;
                        lightings.add(new Lighting(j, i));
                    }
                }
            }
        }
        void minute(boolean stop) {
            outs = new ArrayList<>();
            lightings = new ArrayList<>();
            for (int i = 0; i < n(); i++) if (people.get(i).lit && felt(i, place) > people.get(i).holds()) outs.add(i);
            for (int i : outs) people.get(i).lit = false;
            spread();
            minute++;
            if (!stop) place++;
        }
        World atDoor() {
            World w = copy();
            while (!w.there()) w.minute(false);
            return w;
        }
        World behind(int n) {
            World w = copy();
            for (int m = 0; m < n && !w.there(); m++) w.minute(false);
            return w;
        }
        int left() { return door - place; }
    }

    private World w = new World();
    private World image;
    private final ArrayDeque<int[]> past = new ArrayDeque<>();
    private final StringBuilder letters = new StringBuilder();
    private final List<Integer> row = new ArrayList<>();
    private final int[] refusals = new int[7];

    private int no(int r) { refusals[-r]++; return r; }
    private static boolean in(int v, int least, int most) { return least <= v && v <= most; }

    public int feed(int letter) {
        if (letter < 0) return no(-4);
        if (letter > 255) return no(-6);
        if (letters.length() == 96) return no(-6);
        letters.append((char) letter);
        return letters.length();
    }

    private static final Map<Character, String> SHAPES = new TreeMap<>(Map.of(
        'p', "ddd;", 'w', "dddd;", 'f', "dd;", 'd', "dd;", 'l', "d;", 'm', "d;"));

    public int road() {
        String text = letters.toString();
        letters.setLength(0);
        List<String> statements = new ArrayList<>();
        List<Integer> places = new ArrayList<>();
        int at = 0;
        do {
            int start = at;
            if (at == text.length()) return -1000 - at;
            String shape = SHAPES.get(text.charAt(at));
            if (shape == null) return -1000 - at;
            at++;
            for (char c : shape.toCharArray()) {
                if (at == text.length()) return -1000 - at;
                char t = text.charAt(at);
                boolean fits = c == 'd' ? "0123456789".indexOf(t) >= 0 : t == c;
                if (!fits) return -1000 - at;
                at++;
            }
            statements.add(text.substring(start, at - 1));
            places.add(start);
        } while (at < text.length());
        World trial = w.copy();
        for (int i = 0; i < statements.size(); i++) {
            if (!statement(trial, statements.get(i))) return -2000 - places.get(i);
        }
        w = trial;
        past.clear();
        return statements.size();
    }

    private static boolean statement(World t, String s) {
        int a = Integer.parseInt(s.substring(1, 2));
        int two = s.length() > 2 ? Integer.parseInt(s.substring(1, 3)) : -1;
        switch (s.charAt(0)) {
            case 'p': {
                int lit = s.charAt(3) - '0';
                if (a > 6 || lit > 1 || (a == 6 && lit == 1) || t.n() == 8) return false;
                t.people.add(made(a, s.charAt(2) - '0', lit == 1));
                return true;
            }
            case 'w': {
                int side = s.charAt(4) - '0';
                if (two > 24 || side > 2) return false;
                t.force[two] = s.charAt(3) - '0';
                t.side[two] = side;
                return true;
            }
            case 'f': {
                int each = s.charAt(2) - '0';
                if (a > 2 || each == 0 || each > 2) return false;
                t.form = a;
                t.each = each;
                return true;
            }
            case 'd': {
                if (two == 0 || two > 24 || two < t.place) return false;
                t.door = two;
                return true;
            }
            case 'l': {
                if (a >= t.n() || !t.people.get(a).canBeLit()) return false;
                t.people.get(a).lit ^= true;
                return true;
            }
            default: {
                if (a > 1 || t.there() || t.minute == 999) return false;
                t.minute(a == 1);
                return true;
            }
        }
    }

    public int person(int person, int what) {
        if (!w.has(person)) return no(-1);
        Walker p = w.people.get(person);
        return switch (what) {
            case 0 -> p.number();
            case 1 -> p.figure;
            case 2 -> p.lit ? 1 : 0;
            case 3 -> p.cover();
            case 4 -> p.holds();
            case 5 -> p.gives();
            case 6 -> w.felt(person, w.place);
            default -> no(-2);
        };
    }

    public int light(int person, int lit) {
        if (!w.has(person)) return no(-1);
        if (lit != 0 && lit != 1) return no(-2);
        Walker p = w.people.get(person);
        if (lit == 1 && !p.canBeLit()) return no(-3);
        int was = p.lit ? 1 : 0;
        p.lit = lit == 1;
        past.clear();
        return was;
    }

    public int kind(int person, int kind, int figure) {
        if (!w.has(person)) return no(-1);
        if (!in(kind, 0, 6)) return no(-2);
        if (figure < 0) return no(-4);
        if (figure > 9) return no(-6);
        Walker p = w.people.get(person);
        w.people.set(person, made(kind, figure, p.lit));
        past.clear();
        return 10 * p.number() + p.figure;
    }

    public int wind(int place, int what) {
        if (!in(place, 0, 24)) return no(-1);
        if (what == 0) return w.force[place];
        if (what == 1) return w.side[place];
        return no(-2);
    }

    public int blows(int place, int force, int side) {
        if (!in(place, 0, 24)) return no(-1);
        if (force < 0 || side < 0) return no(-4);
        if (force > 9 || side > 2) return no(-6);
        int was = 10 * w.force[place] + w.side[place];
        w.force[place] = force;
        w.side[place] = side;
        past.clear();
        return was;
    }

    public int set(int what, int v) {
        if (!in(what, 0, 2)) return no(-2);
        int[] least = {0, 1, 1};
        int[] most = {2, 2, 24};
        if (v < least[what]) return no(-4);
        if (v > most[what]) return no(-6);
        if (what == 2 && v < w.place) return no(-3);
        int[] was = {w.form, w.each, w.door};
        int[] is = was.clone();
        is[what] = v;
        w.form = is[0];
        w.each = is[1];
        w.door = is[2];
        past.clear();
        return was[what];
    }

    public int beside(int person) {
        if (!w.has(person)) return no(-1);
        int bits = 0;
        for (int j : w.beside(person)) bits |= 1 << j;
        return bits;
    }

    public int covers(int person, int place) {
        if (!w.has(person) || !in(place, 0, 24)) return no(-1);
        return w.coverer(person, place);
    }

    public int go(int stop) {
        if (stop != 0 && stop != 1) return no(-2);
        if (w.there()) return no(-3);
        if (w.minute == 999) return no(-6);
        past.addLast(new int[] {w.bits(), w.place, w.minute});
        if (past.size() > 8) past.removeFirst();
        w.minute(stop == 1);
        return w.many();
    }

    public int lit() { return w.bits(); }

    public int then(int n) {
        if (n < 0) return no(-4);
        if (n > 24) return no(-6);
        return w.behind(n).bits();
    }

    public int door(int what) {
        World there = w.atDoor();
        return switch (what) {
            case 0 -> there.bits();
            case 1 -> there.many();
            case 2 -> there.light();
            default -> no(-2);
        };
    }

    public int dark(int what) {
        if (what != 0 && what != 1) return no(-2);
        int first = -9;
        for (int m = w.left(); m >= 0; m--) if (w.behind(m).bits() == 0) first = m;
        if (what == 0) return first;
        int longest = 0;
        for (int a = 1; a <= w.left(); a++) {
            for (int b = a; b <= w.left() && w.behind(b).bits() == 0; b++) longest = Math.max(longest, b - a + 1);
        }
        return longest;
    }

    private static int darkFor(World now, int person) {
        int dark = 0;
        World t = now.copy();
        while (!t.there()) {
            t.minute(false);
            if (!t.people.get(person).lit) dark++;
        }
        return dark;
    }

    public int darkFor(int person) { return w.has(person) ? darkFor(w, person) : no(-1); }

    public int litBy(int person, int n) {
        if (!w.has(person)) return no(-1);
        if (n < 0) return no(-4);
        if (n > 24) return no(-6);
        return litBy(w, person, n);
    }

    private static int litBy(World now, int person, int n) {
        int by = -9;
        World t = now.copy();
        for (int m = 0; m < n && !t.there(); m++) {
            t.minute(false);
            for (Lighting l : t.lightings) if (l.who() == person) by = l.by();
        }
        return by;
    }

    private int base() { return w.atDoor().many(); }

    public int stop() {
        int[] best = null;
        for (int p = w.place; p < w.door; p++) {
            for (int s = 1; s <= 5; s++) {
                World t = w.behind(p - w.place);
                for (int i = 0; i < s; i++) t.minute(true);
                int many = t.atDoor().many();
                if (many <= base()) continue;
                int[] is = {-many, s, p};
                if (best == null || Arrays.compare(is, best) < 0) best = is;
            }
        }
        return best == null ? -9 : 10 * best[2] + best[1];
    }

    public int lower() {
        int best = -9;
        int most = w.atDoor().light();
        for (int i = 0; i < w.n(); i++) {
            World t = w.copy();
            Walker p = t.people.get(i);
            t.people.set(i, made(2, p.figure, p.lit));
            int light = t.atDoor().light();
            if (light > most) { most = light; best = i; }
        }
        return best;
    }

    public int changed() {
        int best = -9;
        int most = base();
        for (int i = 0; i < w.n(); i++) {
            for (int j = i + 1; j < w.n(); j++) {
                World t = w.copy();
                Walker p = t.people.get(i);
                t.people.set(i, t.people.get(j));
                t.people.set(j, p);
                int many = t.atDoor().many();
                if (many > most) { most = many; best = 10 * i + j; }
            }
        }
        return best;
    }

    private int[] bestOrder;

    private void orders(List<Integer> sofar) {
        if (sofar.size() == w.n()) {
            World t = w.copy();
            t.people.clear();
            int digits = 0;
            int ten = 1;
            for (int i : sofar) {
                Walker p = w.people.get(i);
                t.people.add(made(p.number(), p.figure, p.lit));
                digits += i * ten;
                ten *= 10;
            }
            int many = t.atDoor().many();
            if (bestOrder == null || many > bestOrder[1]) bestOrder = new int[] {digits, many};
            return;
        }
        for (int i = 0; i < w.n(); i++) {
            if (sofar.contains(i)) continue;
            List<Integer> longer = new ArrayList<>(sofar);
            longer.add(i);
            orders(longer);
        }
    }

    public int order(int what) {
        if (what != 0 && what != 1) return no(-2);
        if (w.n() == 0 || w.n() > 6) return no(-3);
        bestOrder = null;
        orders(List.of());
        return bestOrder[what];
    }

    private World withLanterns(int set) {
        World t = w.copy();
        for (int i = 0; i < t.n(); i++) {
            if ((set >> i & 1) == 1) t.people.set(i, made(3, t.people.get(i).figure, true));
        }
        return t.atDoor();
    }

    public int lantern(int what) {
        if (what != 0 && what != 1) return no(-2);
        if (w.n() == 0) return no(-3);
        int best = 0;
        for (int i = 1; i < w.n(); i++) if (withLanterns(1 << i).many() > withLanterns(1 << best).many()) best = i;
        return what == 0 ? best : withLanterns(1 << best).many();
    }

    public int fewest(int what) {
        if (what != 0 && what != 1) return no(-2);
        for (int many = 0; many <= w.n(); many++) {
            for (int set = 0; set < 1 << w.n(); set++) {
                if (Integer.bitCount(set) == many && withLanterns(set).allGrownLit()) return what == 0 ? many : set;
            }
        }
        return -9;
    }

    public int match() {
        int best = -9;
        int most = base();
        for (int m = w.left() - 1; m >= 0; m--) {
            for (int i = 0; i < w.n(); i++) {
                World t = w.behind(m);
                if (!t.people.get(i).canBeLit()) continue;
                t.people.get(i).lit = true;
                int many = t.atDoor().many();
                if (many > most) { most = many; best = 10 * m + i; }
            }
        }
        return best;
    }

    public int tail() {
        if (w.n() == 0) return no(-3);
        int best = 0;
        double most = -1;
        for (int left = 0; left < w.n(); left++) {
            World t = w.copy();
            for (int i = 0; i < left; i++) t.people.remove(t.n() - 1);
            double part = (double) t.atDoor().many() / t.n();
            if (part > most + 1e-9) { most = part; best = left; }
        }
        return best;
    }

    private int[] ruled(int rule) {
        World t = w.copy();
        int[] stops = new int[25];
        int minutes = 0;
        while (!t.there()) {
            boolean some = t.bits() != 0;
            boolean lacks = !t.allGrownLit();
            boolean stop = switch (rule) {
                case 1 -> some && t.many() * 2 < t.n();
                case 2 -> some && lacks;
                case 3 -> some && lacks && t.force[t.place] <= 2;
                case 4 -> some && lacks && t.force[t.place + 1] > 5;
                default -> false;
            };
            if (stops[t.place] == 5) stop = false;
            if (stop) stops[t.place]++;
            t.minute(stop);
            minutes++;
        }
        return new int[] {t.many(), minutes};
    }

    public int rule(int rule, int what) {
        if (!in(rule, 0, 4) || !in(what, 0, 1)) return no(-2);
        return ruled(rule)[what];
    }

    public int best() {
        int best = 0;
        for (int r = 1; r <= 4; r++) {
            int[] a = ruled(r);
            int[] b = ruled(best);
            if (a[0] > b[0] || (a[0] == b[0] && a[1] < b[1])) best = r;
        }
        return best;
    }

    public int calm(int n, int m) {
        if (n < 1 || m < 0) return no(-4);
        if (n > 99 || m > 99) return no(-6);
        int many = 0;
        for (int reached = 0; reached < n; reached += 2 * m + 1) many++;
        return many;
    }

    public int spreads(int n, int k) {
        if (n < 1 || k < 0) return no(-4);
        if (n > 99 || k > 99) return no(-6);
        if (k >= n) return no(-1);
        boolean[] lit = new boolean[n];
        lit[k] = true;
        for (int m = 0; ; m++) {
            boolean all = true;
            for (boolean one : lit) all &= one;
            if (all) return m;
            boolean[] next = lit.clone();
            for (int i = 0; i < n; i++) {
                if (lit[i] && i > 0) next[i - 1] = true;
                if (lit[i] && i < n - 1) next[i + 1] = true;
            }
            lit = next;
        }
    }

    private static void chancesFrom(World at, int n, BigInteger weight, BigInteger[] ends) {
        if (n == 0) {
            ends[at.bits()] = ends[at.bits()].add(weight);
            return;
        }
        for (int gone = 0; gone < 1 << at.n(); gone++) {
            if ((gone & ~at.bits()) != 0) continue;
            long parts = 1;
            World t = at.copy();
            for (int i = 0; i < at.n(); i++) {
                Walker p = at.people.get(i);
                int tenths = Math.max(0, Math.min(9, at.felt(i, at.place) - p.holds() + 2));
                if (p instanceof Lantern || !p.lit) tenths = 0;
                boolean out = (gone >> i & 1) == 1;
                parts *= out ? tenths : 10 - tenths;
                if (out) t.people.get(i).lit = false;
            }
            if (parts == 0) continue;
            t.spread();
            t.place++;
            chancesFrom(t, n - 1, weight.multiply(BigInteger.valueOf(parts)), ends);
        }
    }

    public long chances(int n, int what, int part) {
        if (n < 0) return 4000000000000000000L - no(-4);
        if (n > 3) return 4000000000000000000L - no(-6);
        if (!in(what, 0, 1) || !in(part, 0, 1)) return 4000000000000000000L - no(-2);
        if (w.n() > 4 || w.left() < n) return 4000000000000000000L - no(-3);
        BigInteger[] ends = new BigInteger[1 << w.n()];
        Arrays.fill(ends, BigInteger.ZERO);
        chancesFrom(w, n, BigInteger.ONE, ends);
        BigInteger whole = BigInteger.TEN.pow(n * w.n());
        BigInteger above = BigInteger.ZERO;
        for (int s = 1; s < ends.length; s++) {
            above = above.add(what == 0 ? ends[s] : ends[s].multiply(BigInteger.valueOf(Integer.bitCount(s))));
        }
        BigInteger common = above.gcd(whole);
        return (part == 0 ? above : whole).divide(common).longValueExact();
    }

    public int wax(int what) {
        if (!in(what, 0, 1)) return no(-2);
        if (row.size() != w.n()) return no(-3);
        int many = 0;
        int least = -9;
        for (int set = (1 << w.n()) - 1; set >= 0; set--) {
            World t = w.copy();
            boolean fits = true;
            for (int i = 0; i < t.n(); i++) if ((set >> i & 1) == 1 && !t.people.get(i).canBeLit()) fits = false;
            if (!fits) continue;
            t.setBits(set);
            for (int i = 0; i < t.n(); i++) if (darkFor(t, i) != row.get(i)) fits = false;
            if (fits) { many++; least = set; }
        }
        return what == 0 ? many : least;
    }

    private int withSide(int form, int side) {
        World t = w.copy();
        t.form = form;
        Arrays.fill(t.side, side);
        return t.atDoor().many();
    }

    public int sides() {
        int best = 0;
        for (int s = 1; s < 3; s++) if (withSide(w.form, s) > withSide(w.form, best)) best = s;
        return best;
    }

    public int row(int v) {
        if (v < 0) return no(-4);
        if (v > 99 || row.size() == 12) return no(-6);
        row.add(v);
        return row.size();
    }

    public int judge() {
        int answer = -9;
        for (int i = row.size() - 1; i >= 0; i--) {
            boolean so = i + 1 <= w.left() && w.behind(i + 1).many() == row.get(i);
            if (!so) answer = i;
        }
        row.clear();
        return answer;
    }

    public int clear() {
        int had = row.size();
        row.clear();
        return had;
    }

    public int seeds(int n, int z, int what) {
        if (n < 1) return no(-4);
        if (n > 20) return no(-6);
        if (!in(what, 0, 1)) return no(-2);
        int[] sums = new int[2];
        int seed = z;
        for (int night = 0; night < n; night++) {
            World t = w.copy();
            for (int p = t.place; p < 25; p++) {
                seed = (int) (seed * 1103515245L + 12345L);
                t.force[p] = (int) ((seed & 0x7fffffffL) >> 16) % 10;
                seed = (int) (seed * 1103515245L + 12345L);
                t.side[p] = (int) ((seed & 0x7fffffffL) >> 16) % 3;
            }
            int many = t.atDoor().many();
            sums[0] += many;
            if (many == 0) sums[1]++;
        }
        return sums[what];
    }

    public int back() {
        if (past.isEmpty()) return no(-3);
        int[] was = past.removeLast();
        w.setBits(was[0]);
        w.place = was[1];
        w.minute = was[2];
        return w.place;
    }

    private World calmly(int n) {
        World t = w.copy();
        for (int m = 0; m < n; m++) t.spread();
        return t;
    }

    public int all() {
        for (int m = 0; m <= 60; m++) if (calmly(m).allGrownLit()) return m;
        return -9;
    }

    public int behind(int n) {
        if (n < 0) return no(-4);
        if (n > 60) return no(-6);
        return calmly(n).bits();
    }

    public int atFirst(int what) {
        if (!in(what, 0, 1)) return no(-2);
        for (int many = 0; many <= w.n(); many++) {
            for (int set = 0; set < 1 << w.n(); set++) {
                World t = w.copy();
                boolean fits = Integer.bitCount(set) == many;
                for (int i = 0; i < t.n(); i++) if ((set >> i & 1) == 1 && !t.people.get(i).canBeLit()) fits = false;
                t.setBits(set);
                if (fits && t.atDoor().allGrownLit()) return what == 0 ? many : set;
            }
        }
        return -9;
    }

    public int forms(int what) {
        if (!in(what, 0, 1)) return no(-2);
        int best = -9;
        int most = -1;
        for (int f : new int[] {1, 2, 11, 12, 21, 22}) {
            World t = w.copy();
            t.form = f / 10;
            t.each = f % 10;
            int many = t.atDoor().many();
            if (many > most) { most = many; best = f; }
        }
        return what == 0 ? best : most;
    }

    public int calms(int what) {
        if (!in(what, 0, 1)) return no(-2);
        int best = -9;
        int most = base();
        for (int p = w.place; p < w.door; p++) {
            for (int q = p; q < w.door; q++) {
                if ((what == 0) != (p == q)) continue;
                World t = w.copy();
                t.force[p] = 0;
                t.force[q] = 0;
                int many = t.atDoor().many();
                if (many > most) { most = many; best = what == 0 ? p : 100 * p + q; }
            }
        }
        return best;
    }

    public int farthest() {
        int best = -9;
        for (int d = Math.max(w.place, 1); d <= 24; d++) {
            World t = w.copy();
            t.door = d;
            if (t.atDoor().bits() != 0) best = d;
        }
        return best;
    }

    public int turned() {
        World t = w.copy();
        java.util.Collections.reverse(t.people);
        return t.atDoor().many();
    }

    public int flame(int person) {
        if (!w.has(person)) return no(-1);
        if (!w.atDoor().people.get(person).lit) return -9;
        return flameBehind(person, w.left());
    }

    // whose light one had behind n minutes, going back from there
    private int flameBehind(int person, int n) {
        for (int m = n; m > 0; m--) {
            World t = w.behind(m - 1);
            t.minute(false);
            for (Lighting l : t.lightings) if (l.who() == person) return flameBehind(l.by(), m - 1);
        }
        return person;
    }

    public int out(int person) {
        if (!w.has(person)) return no(-1);
        int times = 0;
        World t = w.copy();
        while (!t.there()) {
            t.minute(false);
            if (t.outs.contains(person)) times++;
        }
        return times;
    }

    public int again() {
        int times = 0;
        World t = w.copy();
        while (!t.there()) {
            t.minute(false);
            times += t.lightings.size();
        }
        return times;
    }

    public int game(int what) {
        if (!in(what, 0, 2)) return no(-2);
        int sure = 0;
        int known = 99;
        for (int a = 0; a < 3; a++) {
            int worst = 99;
            int bestForm = 0;
            for (int b = 0; b < 3; b++) {
                worst = Math.min(worst, withSide(a, b));
                bestForm = Math.max(bestForm, withSide(b, a));
            }
            sure = Math.max(sure, worst);
            known = Math.min(known, bestForm);
        }
        if (what == 1) return sure;
        if (what == 2) return known;
        for (int form = 0; form < 3; form++) {
            for (int side = 0; side < 3; side++) {
                boolean steady = true;
                for (int other = 0; other < 3; other++) {
                    if (withSide(other, side) > withSide(form, side)) steady = false;
                    if (withSide(form, other) < withSide(form, side)) steady = false;
                }
                if (steady) return 10 * form + side;
            }
        }
        return -9;
    }

    public int heirs(int person) {
        if (!w.has(person)) return no(-1);
        int bits = 0;
        for (int kind = 0; kind < 7; kind++) {
            World t = w.copy();
            Walker p = t.people.get(person);
            t.people.set(person, made(kind, p.figure, p.lit));
            if (t.atDoor().people.get(person).lit) bits += 1 << kind;
        }
        return bits;
    }

    public int gaps(int what) {
        if (!in(what, 0, 1)) return no(-2);
        int most = 0;
        int first = -9;
        for (int m = 1; m <= w.left(); m++) {
            World t = w.behind(m);
            for (int a = 0; a < t.n(); a++) {
                for (int b = a; b < t.n() && !t.people.get(b).lit; b++) {
                    if (b - a + 1 > most) { most = b - a + 1; first = m; }
                }
            }
        }
        return what == 0 ? most : first;
    }

    private boolean comesLit(List<Integer> minutes) {
        World t = w.copy();
        for (int m = 0; !t.there(); m++) {
            if (minutes.contains(m)) {
                for (Walker p : t.people) {
                    if (!p.lit && p.canBeLit()) { p.lit = true; break; }
                }
            }
            t.minute(false);
        }
        return t.bits() != 0;
    }

    private List<Integer> fewestMatches() {
        if (comesLit(List.of())) return List.of();
        int n = w.left();
        for (int a = 0; a < n; a++) if (comesLit(List.of(a))) return List.of(a);
        for (int a = 0; a < n; a++) for (int b = a + 1; b < n; b++) if (comesLit(List.of(a, b))) return List.of(a, b);
        for (int a = 0; a < n; a++) {
            for (int b = a + 1; b < n; b++) {
                for (int c = b + 1; c < n; c++) if (comesLit(List.of(a, b, c))) return List.of(a, b, c);
            }
        }
        return null;
    }

    public int matches(int i) {
        if (i < -1) return no(-4);
        List<Integer> found = fewestMatches();
        if (found == null) return -9;
        if (i == -1) return found.size();
        return i < found.size() ? found.get(i) : -9;
    }

    public int image() {
        image = w.copy();
        return w.place;
    }

    public int restore() {
        if (image == null) return no(-3);
        w = image.copy();
        past.clear();
        return w.place;
    }

    public int count(int what) {
        return switch (what) {
            case 0 -> w.n();
            case 1 -> w.many();
            case 2 -> w.place;
            case 3 -> w.minute;
            case 4 -> w.form;
            case 5 -> w.each;
            case 6 -> w.door;
            case 7 -> letters.length();
            case 8 -> row.size();
            case 9 -> w.light();
            case 10 -> past.size();
            case 11, 12, 13, 14, 15, 16 -> refusals[what - 10];
            default -> -9;
        };
    }
}
