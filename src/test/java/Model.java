import java.util.ArrayList;
import java.util.List;
import java.util.TreeSet;

/**
 * The document once more, as slowly and plainly as can be, to compare the class with: hangers are objects,
 * whatever "would be" is done on a copy, and the best of many is found by trying all.
 */
final class Model {
    static final int BEYOND = Due.BEYOND;

    static final class Hanger {
        int kind;
        int at = -1;
        int facing;
        int slip;
        int feel;

        Hanger copy() {
            Hanger h = new Hanger();
            h.kind = kind;
            h.at = at;
            h.facing = facing;
            h.slip = slip;
            h.feel = feel;
            return h;
        }

        boolean catches(Hanger o) {
            return at >= 0 && o.at >= 0 && catchesAs(kind, Math.abs(at - o.at), facing == o.facing);
        }

        private boolean catchesAs(int k, int d, boolean same) {
            if (k == 0) return d == 1 && same;
            if (k == 1) return catchesAs(0, d, same) || d == 2 && same;
            if (k == 2) return false;
            if (k == 3) return catchesAs(1, d, same) || d == 1;
            if (k == 4) return slip != 0 && catchesAs(1, d, same);
            return catchesAs(2, d, same) || d == 1 && !same;
        }

        int holds() {
            return new int[] {5, 5 - 2, 5 + 3, 5 - 2 - 1, 5 - 2 + 4, 5 + 3 + 1}[kind];
        }

        int need() {
            return new int[] {1, 1, 2, 2, 1, 2}[kind];
        }
    }

    static final class State {
        final List<Hanger> all = new ArrayList<>();
        int moves;
        int price = 4;

        State copy() {
            State s = new State();
            for (Hanger h : all) s.all.add(h.copy());
            s.moves = moves;
            s.price = price;
            return s;
        }

        Hanger get(int h) {
            return all.get(h);
        }

        int who(int place) {
            for (int i = 0; i < all.size(); i++) if (get(i).at == place) return i;
            return -1;
        }

        boolean free(int place) {
            return place >= 0 && place <= 23 && who(place) < 0;
        }

        boolean tangled(int a, int b) {
            return a != b && (get(a).catches(get(b)) || get(b).catches(get(a)));
        }

        TreeSet<Integer> up() {
            TreeSet<Integer> set = new TreeSet<>();
            for (int i = 0; i < all.size(); i++) if (get(i).at >= 0) set.add(i);
            return set;
        }

        TreeSet<Integer> tangledWith(int h) {
            TreeSet<Integer> set = new TreeSet<>();
            for (int i = 0; i < all.size(); i++) if (tangled(h, i)) set.add(i);
            return set;
        }

        int pairs() {
            int n = 0;
            for (int a = 0; a < all.size(); a++) n += tangledWith(a).tailSet(a).size();
            return n;
        }

        TreeSet<Integer> comes(int h, int manner) {
            TreeSet<Integer> set = new TreeSet<>();
            if (manner == 0) gather(h, set);
            if (manner == 1) set.addAll(tangledWith(h));
            set.add(h);
            return set;
        }

        private void gather(int h, TreeSet<Integer> set) {
            if (set.add(h)) for (int o : tangledWith(h)) gather(o, set);
        }

        boolean canTake(int h, int manner) {
            if (get(h).at < 0) return false;
            int free = (free(get(h).at - 1) ? 1 : 0) + (free(get(h).at + 1) ? 1 : 0);
            return manner != 2 || free >= get(h).need();
        }

        /** Takes one, and tells how many shirts fell. */
        int take(int h, int manner) {
            int fell = 0;
            TreeSet<Integer> came = comes(h, manner);
            for (int o : came) {
                Hanger x = get(o);
                if ((o != h || manner == 1) && x.slip > x.holds()) {
                    x.slip = 0;
                    fell++;
                }
                x.at = -1;
            }
            moves++;
            return fell;
        }
    }

    static int bits(Iterable<Integer> set) {
        int bits = 0;
        for (int i : set) bits |= 1 << i;
        return bits;
    }

    State s = new State();
    State kept;
    String tape = "";
    final long[][] sheets = new long[4][];
    final int[] sheetBits = new int[4];
    final int[] findings = new int[7];

    int f(int finding) {
        findings[-1000000001 - finding]++;
        return finding;
    }

    private boolean no(int h) {
        return h < 0 || h >= s.all.size();
    }

    private static boolean out(int v, int least, int most) {
        return v < least || v > most;
    }

    int hanger(int kind) {
        if (out(kind, 0, 5)) return f(BEYOND);
        if (s.all.size() == 12) return f(Due.FULL);
        Hanger h = new Hanger();
        h.kind = kind;
        s.all.add(h);
        return s.all.size() - 1;
    }

    int of(int h, int what) {
        if (no(h) || out(what, 0, 6)) return f(BEYOND);
        Hanger x = s.get(h);
        return new int[] {x.kind, x.at, x.facing, x.slip, x.feel, x.holds(), x.need()}[what];
    }

    int set(int h, int what, int v) {
        if (no(h) || out(what, 3, 4) || out(v, 0, what == 3 ? 9 : 15)) return f(BEYOND);
        Hanger x = s.get(h);
        int was = what == 3 ? x.slip : x.feel;
        if (what == 3) x.slip = v;
        else x.feel = v;
        return was;
    }

    int turn(int h, int kind) {
        if (no(h) || out(kind, 0, 5)) return f(BEYOND);
        int was = s.get(h).kind;
        s.get(h).kind = kind;
        return was;
    }

    int as(int h, int kind) {
        if (no(h) || out(kind, 0, 5)) return f(BEYOND);
        String[] ways = {"0", "01", "02", "013", "014", "025"};
        return ways[s.get(h).kind].indexOf('0' + kind) < 0 ? f(Due.KIND) : s.get(h).slip;
    }

    int price(int v) {
        if (out(v, 0, 99)) return f(BEYOND);
        int was = s.price;
        s.price = v;
        return was;
    }

    int at(int place) {
        if (out(place, 0, 23)) return f(BEYOND);
        return s.free(place) ? f(Due.NONE) : s.who(place);
    }

    int hang(int h, int place) {
        if (no(h) || out(place, 0, 23)) return f(BEYOND);
        if (s.get(h).at >= 0 || !s.free(place)) return f(Due.STATE);
        s.get(h).at = place;
        s.moves++;
        return s.up().size();
    }

    int face(int h) {
        if (no(h)) return f(BEYOND);
        s.moves++;
        return s.get(h).facing = 1 - s.get(h).facing;
    }

    int shift(int h, int by) {
        if (no(h)) return f(BEYOND);
        long to = (long) s.get(h).at + by;
        if (s.get(h).at < 0 || to < 0 || to > 23 || !s.free((int) to)) return f(Due.STATE);
        s.moves++;
        return s.get(h).at = (int) to;
    }

    private int cannot(int h, int manner) {
        if (no(h) || out(manner, 0, 2)) return BEYOND;
        return s.canTake(h, manner) ? 0 : Due.STATE;
    }

    int take(int h, int manner) {
        if (cannot(h, manner) != 0) return f(cannot(h, manner));
        int came = bits(s.comes(h, manner));
        s.take(h, manner);
        return came;
    }

    int now(int what) {
        int shirts = 0;
        int slips = 0;
        for (Hanger h : s.all) {
            shirts += h.slip > 0 ? 1 : 0;
            slips += h.slip;
        }
        if (out(what, 0, 6)) return f(BEYOND);
        return new int[] {s.moves, bits(s.up()), s.pairs(), shirts, slips, s.price, 24 - s.up().size()}[what];
    }

    int tangled(int h) {
        return no(h) ? f(BEYOND) : bits(s.tangledWith(h));
    }

    int catches(int h, int o) {
        if (no(h) || no(o) || h == o) return f(BEYOND);
        return s.get(h).catches(s.get(o)) ? 1 : 0;
    }

    int comes(int h, int manner) {
        return cannot(h, manner) != 0 ? f(cannot(h, manner)) : bits(s.comes(h, manner));
    }

    int falls(int h, int manner) {
        return cannot(h, manner) != 0 ? f(cannot(h, manner)) : takenOnCopy(h, manner);
    }

    private int takenOnCopy(int h, int manner) {
        return s.copy().take(h, manner);
    }

    int heaps() {
        TreeSet<Integer> heaps = new TreeSet<>();
        for (int h : s.up()) heaps.add(bits(s.comes(h, 0)));
        return heaps.size();
    }

    int greatest() {
        int most = 0;
        for (int h : s.up()) most = Math.max(most, s.comes(h, 0).size());
        return most == 0 ? f(Due.NONE) : most;
    }

    int manner(int h) {
        if (no(h)) return f(BEYOND);
        if (s.get(h).at < 0) return f(Due.STATE);
        TreeSet<Integer> ways = new TreeSet<>();
        for (int m = 0; m < 3; m++) {
            if (s.canTake(h, m)) ways.add(takenOnCopy(h, m) * 1000 + s.comes(h, m).size() * 10 + m);
        }
        return ways.first() % 10;
    }

    int first() {
        TreeSet<Integer> ways = new TreeSet<>();
        for (int h : s.up()) ways.add(takenOnCopy(h, 0) * 100 + h);
        return ways.isEmpty() ? f(Due.NONE) : ways.first() % 100;
    }

    int spot(int h) {
        if (no(h)) return f(BEYOND);
        if (s.get(h).at < 0) return f(Due.STATE);
        TreeSet<Integer> ways = new TreeSet<>();
        int own = s.get(h).at;
        for (int p = 0; p < 24; p++) {
            if (p != own && !s.free(p)) continue;
            State c = s.copy();
            c.get(h).at = p;
            if (c.comes(h, 0).size() == 1) ways.add(Math.abs(p - own) * 100 + p);
        }
        return ways.isEmpty() ? f(Due.NONE) : ways.first() % 100;
    }

    int facing() {
        TreeSet<Long> ways = new TreeSet<>();
        int up = bits(s.up());
        for (int set = 0; set < 4096; set++) {
            int size = Integer.bitCount(set);
            if (size > 2 || (set & ~up) != 0) continue;
            State c = s.copy();
            for (int i = 0; i < c.all.size(); i++) c.get(i).facing ^= set >> i & 1;
            ways.add(c.pairs() * 10_000_000L + size * 100_000L + set);
        }
        return (int) (ways.first() % 100_000);
    }

    int clears(int manner) {
        if (out(manner, 0, 1)) return f(BEYOND);
        State c = s.copy();
        int fell = 0;
        while (!c.up().isEmpty()) fell += c.take(c.up().first(), manner);
        return fell;
    }

    int untangle() {
        int up = bits(s.up());
        int best = up;
        for (int set = 0; set < 4096; set++) {
            if ((set & ~up) != 0 || Integer.bitCount(set) >= Integer.bitCount(best)) continue;
            boolean apart = true;
            for (int a = 0; a < s.all.size() && apart; a++) {
                for (int b = 0; b < a && apart; b++) {
                    apart = (set >> a & 1) == 1 || (set >> b & 1) == 1 || !s.tangled(a, b);
                }
            }
            if (apart) best = set;
        }
        return best;
    }

    int saves() {
        int any = 0;
        for (int h : s.up()) any += s.tangledWith(h).isEmpty() ? 0 : 1;
        return s.price * any - 2 * Integer.bitCount(untangle());
    }

    int feels(int feel) {
        if (out(feel, 0, 15)) return f(BEYOND);
        if (s.up().isEmpty()) return f(Due.NONE);
        for (int like = 4; ; like--) {
            int set = 0;
            for (int h : s.up()) {
                int alike = 0;
                for (int b = 0; b < 4; b++) alike += (s.get(h).feel >> b & 1) == (feel >> b & 1) ? 1 : 0;
                if (alike == like) set |= 1 << h;
            }
            if (set != 0) return set;
        }
    }

    int kind(int h) {
        if (no(h)) return f(BEYOND);
        if (s.get(h).at < 0) return f(Due.STATE);
        TreeSet<Integer> ways = new TreeSet<>();
        for (int k = 0; k < 6; k++) {
            State c = s.copy();
            c.get(h).kind = k;
            ways.add(c.tangledWith(h).size() * 10 + k);
        }
        return ways.first() % 10;
    }

    int feed(int bytes, int n) {
        if (out(n, 1, 4)) return f(BEYOND);
        if (tape.length() + n > 120) return f(Due.FULL);
        for (int i = n - 1; i >= 0; i--) tape += (char) (bytes >>> 8 * i & 255);
        return tape.length();
    }

    int wipe() {
        int had = tape.length();
        tape = "";
        return had;
    }

    int rail() {
        String text = tape;
        tape = "";
        List<String> tokens = new ArrayList<>();
        List<Integer> starts = new ArrayList<>();
        java.util.regex.Matcher m = java.util.regex.Pattern.compile("[a-z]+|[0-9]+|[^ ]", java.util.regex.Pattern.DOTALL).matcher(text);
        while (m.find()) {
            tokens.add(m.group());
            starts.add(m.start());
        }
        tokens.add("");
        starts.add(text.length());
        State c = s.copy();
        int items = 0;
        int i = 0;
        while (true) {
            String[] names = {"hanger", "wire", "wood", "bent", "strap", "bar"};
            int kind = List.of(names).indexOf(tokens.get(i));
            if (tokens.get(i).equals("price")) {
                i++;
                if (!number(tokens.get(i), 0, 99)) return -1 - starts.get(i);
                c.price = Integer.parseInt(tokens.get(i));
                i++;
            } else {
                if (kind < 0 || c.all.size() == 12) return -1 - starts.get(i);
                Hanger h = new Hanger();
                h.kind = kind;
                i++;
                if (tokens.get(i).equals("at")) {
                    i++;
                    if (!number(tokens.get(i), 0, 23) || !c.free(Integer.parseInt(tokens.get(i)))) return -1 - starts.get(i);
                    h.at = Integer.parseInt(tokens.get(i++));
                }
                if (tokens.get(i).equals("back")) {
                    h.facing = 1;
                    i++;
                }
                if (tokens.get(i).equals("shirt")) {
                    i++;
                    if (!number(tokens.get(i), 1, 9)) return -1 - starts.get(i);
                    h.slip = Integer.parseInt(tokens.get(i++));
                }
                if (tokens.get(i).equals("feel")) {
                    i++;
                    if (!number(tokens.get(i), 0, 15)) return -1 - starts.get(i);
                    h.feel = Integer.parseInt(tokens.get(i++));
                }
                c.all.add(h);
            }
            items++;
            if (tokens.get(i).isEmpty()) break;
            if (!tokens.get(i).equals(";")) return -1 - starts.get(i);
            i++;
        }
        s = c;
        return items;
    }

    private static boolean number(String token, int least, int most) {
        if (!token.matches("[0-9]+")) return false;
        java.math.BigInteger v = new java.math.BigInteger(token);
        return v.bitLength() < 30 && !out(v.intValue(), least, most);
    }

    int sheet(int t, int bits, int n) {
        if (out(t, 0, 3) || bits != 0 && bits != 8 && bits != 16 && bits != 64) return f(BEYOND);
        if (n < 0) return f(Due.SIZE);
        if (n > 40) return f(BEYOND);
        sheets[t] = bits == 0 ? null : new long[n];
        sheetBits[t] = bits;
        return bits == 0 ? 0 : n;
    }

    private int noSheet(int t) {
        return out(t, 0, 3) ? BEYOND : sheets[t] == null ? Due.MISSING : 0;
    }

    long write(int t, int i, long v) {
        if (noSheet(t) != 0) return f(noSheet(t));
        if (out(i, 0, sheets[t].length - 1)) return f(BEYOND);
        long was = sheets[t][i];
        int unused = 64 - sheetBits[t];
        sheets[t][i] = v << unused >> unused;
        return was;
    }

    int copy(int a, int from, int b, int to, int n) {
        if (out(a, 0, 3) || out(b, 0, 3)) return f(BEYOND);
        if (sheets[a] == null || sheets[b] == null) return f(Due.MISSING);
        if (sheetBits[a] != sheetBits[b]) return f(Due.KIND);
        if (from < 0 || to < 0 || n < 0 || (long) from + n > sheets[a].length || (long) to + n > sheets[b].length) return f(BEYOND);
        long[] was = sheets[a].clone();
        for (int i = 0; i < n; i++) sheets[b][to + i] = was[from + i];
        return n;
    }

    int lays(int t) {
        if (noSheet(t) != 0) return f(noSheet(t));
        int n = 0;
        for (int h = 0; h < sheets[t].length; h++) {
            long p = sheets[t][h];
            if (no(h) || s.get(h).at >= 0 || p < 0 || p > 23 || !s.free((int) p)) continue;
            s.get(h).at = (int) p;
            s.moves++;
            n++;
        }
        return n;
    }

    int book(int t) {
        if (noSheet(t) != 0) return f(noSheet(t));
        List<Integer> row = new ArrayList<>();
        for (int p = 0; p < 24; p++) if (!s.free(p)) row.add(s.who(p));
        for (int i = 0; i < sheets[t].length; i++) sheets[t][i] = i < row.size() ? row.get(i) : -1;
        return row.size();
    }

    int read(int t) {
        if (noSheet(t) != 0) return f(noSheet(t));
        State c = s.copy();
        for (int i = 0; i < sheets[t].length; i++) {
            long h = sheets[t][i];
            if (h < 0 || h >= c.all.size() || c.get((int) h).at < 0 || c.comes((int) h, 0).size() != 1) return 1 + i;
            c.take((int) h, 0);
        }
        return 0;
    }

    int image() {
        kept = s.copy();
        return 1;
    }

    int undo() {
        if (kept == null) return f(Due.NONE);
        s = kept.copy();
        return s.all.size();
    }

    int tear() {
        int was = kept == null ? 0 : 1;
        kept = null;
        return was;
    }

    int count(int what) {
        int back = 0;
        for (Hanger h : s.all) back += h.facing;
        if (out(what, 0, 3)) return f(BEYOND);
        return new int[] {s.all.size(), tape.length(), s.up().size(), back}[what];
    }

    int status(int which) {
        if (out(which, -1, 6)) return f(BEYOND);
        int all = 0;
        for (int n : findings) all += n;
        return which < 0 ? all : findings[which];
    }
}
