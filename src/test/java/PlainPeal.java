import java.util.ArrayList;
import java.util.Arrays;
import java.util.Comparator;
import java.util.List;

/** The document said a second time, in ordinary Java and another way, to be held against the class. */
final class PlainPeal {
    private static final long NO = Long.MIN_VALUE;
    private static final int[] ABOVE = {-1, 0, 0, 0, 1, 2, 3};

    static final class One {
        int kind;
        int v;
        int due;
        int off;
        boolean away;
        int[] row = new int[4];

        One copy() {
            One o = new One();
            o.kind = kind;
            o.v = v;
            o.due = due;
            o.off = off;
            o.away = away;
            o.row = row.clone();
            return o;
        }
    }

    static final class World {
        List<One> all = new ArrayList<>();
        int day;
        List<int[]> seen = new ArrayList<>();
        List<int[]> week = new ArrayList<>();
        List<int[]> book = new ArrayList<>();
        List<Clause> town = List.of();
        int silent = -1;

        World copy() {
            World w = new World();
            for (One o : all) {
                w.all.add(o.copy());
            }
            w.day = day;
            w.seen = new ArrayList<>(seen);
            w.week = new ArrayList<>(week);
            w.book = new ArrayList<>(book);
            w.town = town;
            w.silent = silent;
            return w;
        }

        int last(String word, int without) {
            int n = without;
            for (Clause c : town) {
                n = c.word.equals(word) ? c.n : n;
            }
            return n;
        }

        int lag(int p) {
            if (p == silent) {
                return 0;
            }
            int sum = 0;
            for (Clause c : town) {
                if (c.e != null && c.e.holds(this, p)) {
                    sum += c.word.equals("lag") ? c.n : -c.n;
                }
            }
            return sum;
        }

        int comes(int p) {
            return all.get(p).due + lag(p) - all.get(p).off;
        }

        int rings(int p) {
            if (all.get(p).away || lag(p) <= 0) {
                return 0;
            }
            int minute = comes(p);
            int sum = 0;
            for (int q = 0; q < all.size(); q++) {
                sum += !all.get(q).away && lag(q) > 0 && comes(q) == minute ? lag(q) : 0;
            }
            return sum;
        }

        int wrong() {
            return all.stream().mapToInt(o -> Math.abs(o.off)).max().orElse(0);
        }

        int spread() {
            return all.stream().mapToInt(o -> o.off).max().orElse(0) - all.stream().mapToInt(o -> o.off).min().orElse(0);
        }

        /** Whether a watch was SET to be off otherwise. */
        boolean day() {
            List<int[]> ringers = new ArrayList<>();
            for (int p = 0; p < all.size(); p++) {
                if (rings(p) > 0) {
                    ringers.add(new int[] {comes(p), p, rings(p)});
                }
            }
            ringers.sort(Comparator.<int[]>comparingInt(r -> r[0]).thenComparingInt(r -> r[1]));
            boolean moved = false;
            for (int[] r : ringers) {
                for (int q = 0; q < all.size(); q++) {
                    One one = all.get(q);
                    if (q != r[1] && !one.away) {
                        int before = one.off;
                        one.off = held(set(one, q, r[1], r[2]));
                        moved |= one.off != before;
                    }
                }
            }
            int fast = last("fast", 0);
            all.forEach(o -> o.off = held(o.off + fast));
            day++;
            return moved;
        }

        private int set(One one, int q, int ringer, int r) {
            int o = all.get(ringer).off;
            if (one.kind == 5 || r < one.v) {
                return one.off;
            }
            if (one.kind == 0) {
                return o;
            }
            if (one.kind == 2) {
                return r >= last("loud", 5) ? o : one.off;
            }
            if (one.kind == 3 || one.kind == 6) {
                return ringer > q ? one.off : one.kind == 3 ? o : o + one.row[day % 4];
            }
            int far = Math.abs(o - one.off) / 2;
            if (one.kind == 4) {
                far = Math.min(1, far);
            }
            return o > one.off ? one.off + far : one.off - far;
        }

        World behind(int n) {
            World w = copy();
            for (int k = 0; k < n; k++) {
                w.day();
            }
            return w;
        }

        boolean asSeen() {
            for (int[] s : seen) {
                if (behind(s[2]).all.get(s[0]).off != s[1]) {
                    return false;
                }
            }
            return true;
        }
    }

    record Clause(String word, int n, Test e) {
    }

    interface Test {
        boolean holds(World w, int p);
    }

    static int held(int off) {
        return off < -999 ? -999 : off > 999 ? 999 : off;
    }

    private World now = new World();
    private World kept;
    private final List<List<Clause>> towns = new ArrayList<>();
    private String text = "";
    private final List<Integer> ran = new ArrayList<>();
    private final Tape[] tapes = new Tape[6];

    static final class Tape {
        final int sort;
        final long[] items;

        Tape(int sort, int n) {
            this.sort = sort;
            items = new long[n];
        }
    }

    private boolean is(int person) {
        return person >= 0 && person < now.all.size();
    }

    private static boolean in(long n, long least, long most) {
        return n >= least && n <= most;
    }

    int person(int kind, int v, int due, int off) {
        if (!in(kind, 0, 6)) {
            return -1;
        }
        if (!in(v, 0, 9) || !in(due, 0, 99) || !in(off, -999, 999)) {
            return -2;
        }
        if (now.all.size() == 6) {
            return -4;
        }
        One o = new One();
        o.kind = kind;
        o.v = v;
        o.due = due;
        o.off = off;
        now.all.add(o);
        return now.all.size() - 1;
    }

    int of(int person, int what) {
        if (!is(person) || !in(what, 0, 7)) {
            return -10001;
        }
        One o = now.all.get(person);
        int[] all = {o.kind, o.v, o.due, o.off, o.away ? 1 : 0, now.lag(person), now.comes(person), now.rings(person)};
        return all[what];
    }

    int off(int person, int n) {
        if (!is(person)) {
            return -10001;
        }
        if (!in(n, -999, 999)) {
            return -10002;
        }
        int was = now.all.get(person).off;
        now.all.get(person).off = n;
        return was;
    }

    int due(int person, int n) {
        if (!is(person)) {
            return -1;
        }
        if (!in(n, 0, 99)) {
            return -2;
        }
        int was = now.all.get(person).due;
        now.all.get(person).due = n;
        return was;
    }

    int away(int person, boolean is) {
        if (!is(person)) {
            return -1;
        }
        boolean was = now.all.get(person).away;
        now.all.get(person).away = is;
        return was ? 1 : 0;
    }

    int row(int person, int part, int n) {
        if (!is(person) || !in(part, 0, 3)) {
            return -1;
        }
        if (!in(n, 0, 9)) {
            return -2;
        }
        One o = now.all.get(person);
        if (o.kind != 6) {
            return -3;
        }
        int was = o.row[part];
        o.row[part] = n;
        return was;
    }

    int feed(int sign) {
        if (!in(sign, 0, 127)) {
            return -2;
        }
        if (text.length() == 100) {
            return -4;
        }
        text += (char) sign;
        return text.length();
    }

    int town() {
        if (towns.size() == 6) {
            return -4;
        }
        String t = text;
        text = "";
        int fault = PlainText.fault(t);
        if (fault >= 0) {
            return -10 - fault;
        }
        now.town = PlainText.town(t);
        towns.add(now.town);
        return towns.size() - 1;
    }

    int told(int what) {
        if (!in(what, 0, 5)) {
            return -1;
        }
        int bits = 0;
        for (int p = 0; p < now.all.size(); p++) {
            bits += now.all.get(p).away ? 1 << p : 0;
        }
        return new int[] {now.day, now.last("fast", 0), now.last("loud", 5), bits, now.wrong(), now.spread()}[what];
    }

    int pass(int n) {
        if (!in(n, 0, 60)) {
            return -2;
        }
        if (now.day + n > 9999) {
            return -3;
        }
        now = now.behind(n);
        return now.wrong();
    }

    int on(int n, int what) {
        boolean one = in(what, 10, 15) && is(what - 10);
        if (!in(what, 0, 1) && !one) {
            return -10001;
        }
        if (!in(n, 0, 60)) {
            return -10002;
        }
        World w = now.behind(n);
        return one ? w.all.get(what - 10).off : what == 0 ? w.wrong() : w.spread();
    }

    int until(int what) {
        if (!in(what, 0, 2)) {
            return -1;
        }
        World w = now.copy();
        for (int k = 0; k <= 60; k++) {
            if (what == 1 && w.spread() == 0 || what == 2 && w.wrong() == 0) {
                return k;
            }
            boolean moved = w.day();
            if (what == 0 && !moved) {
                return k;
            }
        }
        return -5;
    }

    int prompt() {
        int[] wrongs = new int[now.all.size()];
        for (int p = 0; p < wrongs.length; p++) {
            World w = now.copy();
            w.silent = p;
            wrongs[p] = w.behind(30).wrong();
        }
        int best = Arrays.stream(wrongs).min().orElse(0);
        if (wrongs.length == 0 || best >= now.behind(30).wrong()) {
            return -5;
        }
        for (int p = 0; p < wrongs.length; p++) {
            if (wrongs[p] == best) {
                return p;
            }
        }
        return -5;
    }

    int best(int person) {
        if (!is(person)) {
            return -10001;
        }
        int least = 9;
        int wrong = 1000;
        for (int off = 9; off >= -9; off--) {
            World w = now.copy();
            w.all.get(person).off = off;
            int then = w.behind(30).wrong();
            if (then <= wrong) {
                wrong = then;
                least = off;
            }
        }
        return least;
    }

    int when(int person) {
        if (!is(person)) {
            return -1;
        }
        int least = 90;
        int spread = 2000;
        for (int due = 90; due >= 0; due -= 10) {
            World w = now.copy();
            w.all.get(person).due = due;
            int then = w.behind(30).spread();
            if (then <= spread) {
                spread = then;
                least = due;
            }
        }
        return least;
    }

    int apart(int one, int other, int n) {
        if (!is(one) || !is(other)) {
            return -1;
        }
        if (one == other || !in(n, 0, 60)) {
            return -2;
        }
        int most = 0;
        World w = now;
        for (int k = 0; k <= n; k++) {
            most = Math.max(most, Math.abs(w.all.get(one).off - w.all.get(other).off));
            w = w.behind(1);
        }
        return most;
    }

    int who(int r, int n) {
        if (!in(r, 1, 99) || !in(n, 0, 40)) {
            return -2;
        }
        World w = now.behind(n);
        int bits = 0;
        for (int p = 0; p < w.all.size(); p++) {
            bits += w.rings(p) == r ? 1 << p : 0;
        }
        return bits;
    }

    private static int add(List<int[]> rows, int most, int... row) {
        if (rows.size() == most) {
            return -4;
        }
        rows.add(row);
        return rows.size();
    }

    int see(int person, int off, int n) {
        if (person == -1) {
            now.seen.clear();
            return 0;
        }
        if (!is(person)) {
            return -1;
        }
        return in(off, -999, 999) && in(n, 0, 20) ? add(now.seen, 5, person, off, n) : -2;
    }

    int was(int person, int what) {
        if (!is(person) || !in(what, 0, 1)) {
            return -10001;
        }
        List<Integer> good = new ArrayList<>();
        for (int off = -20; off <= 20; off++) {
            World w = now.copy();
            w.all.get(person).off = off;
            if (w.asSeen()) {
                good.add(off);
            }
        }
        return what == 0 ? good.size() : good.isEmpty() ? -10005 : good.get(0);
    }

    int can(int person, int what) {
        if (!is(person) || !in(what, 0, 1)) {
            return -1;
        }
        List<Integer> good = new ArrayList<>();
        for (int v = 0; v <= 9; v++) {
            World w = now.copy();
            w.all.get(person).v = v;
            if (w.asSeen()) {
                good.add(v);
            }
        }
        return what == 0 ? good.size() : good.isEmpty() ? -5 : good.get(0);
    }

    private static long part(long above, long below, int part) {
        long a = above;
        long b = below;
        while (b != 0) {
            long rest = a % b;
            a = b;
            b = rest;
        }
        return part == 0 ? above / a : below / a;
    }

    long odds(int n, int part) {
        int size = now.all.size();
        if (!in(n, 0, 60) || !in(part, 0, 1) || size == 0) {
            return NO;
        }
        int good = 0;
        for (int p = 0; p < size; p++) {
            World w = now.copy();
            w.all.get(p).away = true;
            good += w.behind(n).spread() == 0 ? 1 : 0;
        }
        return part(good, size, part);
    }

    long mean(int n, int part) {
        int size = now.all.size();
        if (!in(n, 0, 60) || !in(part, 0, 1) || size == 0) {
            return NO;
        }
        return part(now.behind(n).all.stream().mapToInt(o -> Math.abs(o.off)).sum(), size, part);
    }

    int week(int what, int person) {
        if (what == -1) {
            now.week.clear();
            return 0;
        }
        if (!in(what, 0, 3) || what != 0 && !is(person)) {
            return -1;
        }
        return add(now.week, 10, what, person);
    }

    int gone(int what) {
        if (!in(what, 0, 1)) {
            return -1;
        }
        World w = now.copy();
        for (int[] row : now.week) {
            if (row[0] == 0) {
                w.day();
            } else if (row[0] == 3) {
                w.all.get(row[1]).off = 0;
            } else {
                w.all.get(row[1]).away = row[0] == 1;
            }
        }
        return what == 0 ? w.wrong() : w.spread();
    }

    int book(int person, int off) {
        if (person == -1) {
            now.book.clear();
            return 0;
        }
        if (!is(person)) {
            return -1;
        }
        return in(off, -999, 999) ? add(now.book, 8, person, off) : -2;
    }

    int looked() {
        for (int[] row : now.book) {
            if (now.all.get(row[0]).off != row[1]) {
                return now.book.indexOf(row);
            }
        }
        return -5;
    }

    int judge(int tape, int i) {
        if (!in(tape, 0, 5)) {
            return -1;
        }
        Tape t = tapes[tape];
        if (t != null && t.sort != 1) {
            return -12;
        }
        for (int p = 0; p < now.all.size(); p++) {
            if (t == null || i < 0 || (long) i + p >= t.items.length) {
                return 100 + p;
            }
            if (t.items[i + p] != now.all.get(p).off) {
                return p;
            }
        }
        return -5;
    }

    int image() {
        kept = now.copy();
        return now.all.size();
    }

    int undo() {
        if (kept == null) {
            return -3;
        }
        now = kept.copy();
        return now.all.size();
    }

    int act(int person, int act, int x) {
        ran.clear();
        return is(person) && in(act, 0, 2) ? new Body(now.all.get(person), person).call(act, x) : 0;
    }

    /** One who ACTS; each KIND's bodies as they are told. */
    private final class Body {
        final One one;
        final int i;

        Body(One one, int i) {
            this.one = one;
            this.i = i;
        }

        int call(int act, int x) {
            return from(one.kind, act, x);
        }

        int from(int kind, int act, int x) {
            String told = "0wakes10 0rings11 0tells12 1rings20 2wakes30 3tells40 4wakes50 4rings51 5tells60 6rings70 6wakes71";
            int at = told.indexOf(kind + new String[] {"wakes", "rings", "tells"}[act]);
            if (at < 0) {
                return from(ABOVE[kind], act, x);
            }
            int body = Integer.parseInt(told.substring(at + 6, at + 8));
            ran.add(body);
            int up = ABOVE[kind];
            switch (body) {
                case 10: return x + i;
                case 11: return call(0, x) - one.v;
                case 12: return call(1, x) * 2;
                case 20: return from(up, 1, x) ^ 6;
                case 30: return from(up, 0, x * 3);
                case 40: return from(up, 2, x) + call(1, 1);
                case 50: return -from(up, 0, x);
                case 51: return from(up, 1, x + 1);
                case 60: return from(up, 2, x - i);
                case 70: return from(up, 1, x) + from(up, 0, 2);
                default: return from(up, 0, x) ^ one.v;
            }
        }
    }

    int trace(int i) {
        return in(i, 0, Math.min(20, ran.size()) - 1) ? ran.get(i) : -1;
    }

    int taken(int person, int k) {
        if (!in(k, 0, 6)) {
            return -2;
        }
        if (!is(person)) {
            return -11;
        }
        int kind = now.all.get(person).kind;
        for (int at = kind; at >= 0; at = ABOVE[at]) {
            if (at == k) {
                return kind;
            }
        }
        return -12;
    }

    int count(int what) {
        int[] all = {now.all.size(), towns.size(), now.seen.size(), now.week.size(), now.book.size(), text.length(), ran.size()};
        return in(what, 0, 6) ? all[what] : -2;
    }

    int tape(int tape, int sort, int n) {
        if (!in(tape, 0, 5)) {
            return -1;
        }
        if (sort == -1) {
            tapes[tape] = null;
            return 1;
        }
        if (!in(sort, 0, 4) || n > 60) {
            return -2;
        }
        if (n < 0) {
            return -14;
        }
        tapes[tape] = new Tape(sort, n);
        return 1;
    }

    int item(int tape, int i, long v) {
        if (!in(tape, 0, 5)) {
            return -1;
        }
        Tape t = tapes[tape];
        if (t == null) {
            return -11;
        }
        if (!in(i, 0, t.items.length - 1)) {
            return -13;
        }
        int spare = new int[] {56, 48, 32, 0, 0}[t.sort];
        t.items[i] = t.sort == 4 ? (v == 0 ? 0 : 1) : v << spare >> spare;
        return 1;
    }

    long read(int tape, int i) {
        boolean there = in(tape, 0, 5) && tapes[tape] != null && in(i, 0, tapes[tape].items.length - 1);
        return there ? tapes[tape].items[i] : NO;
    }

    int shift(int tape, int i, int other, int j, int n) {
        if (!in(tape, 0, 5) || !in(other, 0, 5)) {
            return -1;
        }
        Tape from = tapes[tape];
        Tape to = tapes[other];
        if (from == null || to == null) {
            return -11;
        }
        if (from.sort != to.sort) {
            return -12;
        }
        if (n < 0 || i < 0 || j < 0 || (long) i + n > from.items.length || (long) j + n > to.items.length) {
            return -13;
        }
        long[] before = from.items.clone();
        for (int k = 0; k < n; k++) {
            to.items[j + k] = before[i + k];
        }
        return n;
    }
}
