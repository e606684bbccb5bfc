import java.math.BigInteger;
import java.util.ArrayList;
import java.util.Arrays;
import java.util.Collections;
import java.util.Comparator;
import java.util.List;
import java.util.Random;
import java.util.regex.Matcher;
import java.util.regex.Pattern;

/**
 * Random runs of calls, answered by the class and by a second, slow reading of the document that
 * shares no code and no way of counting with it: every beast is moved minute by minute, and every
 * "of all ways" is tried.
 */
public final class ReferenceTests {
    static final int BAD = -1, NO = -2, FULL = -3, NONE = -4;
    static final String FIRST = "b3,1,1,0;b5,8,0,2;b7,6,2,0;b4,3,3,0;b6,4,0,1;b2,2,0,0;w40;c0,1;"
            + "c8,2;r0,1;a3,4,5;s5;s0;v0,1;v2,1;v1,3;y0,12;y1,30;y2,7;";

    static final class Beast {
        int s, w, k, t, on = NONE, raft = NONE, want = 0, harvest = 0;
    }

    static final class Laid {
        List<Beast> b = new ArrayList<>();
        int width = 30;
        List<int[]> currents = new ArrayList<>();
        List<List<Integer>> rafts = new ArrayList<>();
        List<Integer> speakers = new ArrayList<>();
        int fault = NONE;

        int n() {
            return b.size();
        }

        int current(int m) {
            int[] best = null;
            for (int[] c : currents) {
                if (c[0] <= m && (best == null || c[0] >= best[0])) best = c;
            }
            return best == null ? 0 : best[1];
        }

        List<Integer> voices() {
            List<Integer> all = new ArrayList<>(speakers);
            for (int i = 0; i < n(); i++) if (!all.contains(i)) all.add(i);
            return all;
        }
    }

    static final Pattern ITEM = Pattern.compile("([bwcrasvy])(\\d{1,2}(?:,\\d{1,2})*);");

    static Laid read(String text) {
        Laid laid = new Laid();
        int at = 0;
        while (at < text.length()) {
            Matcher m = ITEM.matcher(text).region(at, text.length());
            if (!m.lookingAt() || !take(laid, m.group(1).charAt(0), m.group(2).split(","))) {
                laid.fault = at;
                return laid;
            }
            at = m.end();
        }
        return laid;
    }

    static boolean in(int x, int low, int high) {
        return low <= x && x <= high;
    }

    static boolean take(Laid laid, char letter, String[] parts) {
        int[] a = new int[parts.length];
        for (int i = 0; i < a.length; i++) a[i] = Integer.parseInt(parts[i]);
        if (a.length != ("ws".indexOf(letter) >= 0 ? 1
                : letter == 'a' ? 3 : letter == 'b' ? 4 : 2)) return false;
        int n = laid.n();
        if ("rasvy".indexOf(letter) >= 0 && a[0] >= n) return false;
        if (letter == 'b') {
            if (n == 8 || !in(a[0], 1, 9) || !in(a[1], 1, 9) || a[2] > 3 || a[3] > 30) return false;
            Beast x = new Beast();
            x.s = a[0];
            x.w = a[1];
            x.k = a[2];
            x.t = a[3];
            laid.b.add(x);
        } else if (letter == 'w') {
            if (a[0] < 1) return false;
            laid.width = a[0];
        } else if (letter == 'c') {
            if (laid.currents.size() == 4 || a[1] > 5) return false;
            laid.currents.add(a);
        } else if (letter == 'r') {
            if (a[1] >= n || a[0] == a[1]) return false;
            laid.b.get(a[0]).on = a[1];
        } else if (letter == 'a') {
            if (a[1] >= n || a[2] >= n || laid.rafts.size() == 2) return false;
            List<Integer> raft = List.of(a[0], a[1], a[2]);
            if (raft.stream().distinct().count() != 3) return false;
            laid.rafts.add(raft);
        } else if (letter == 's') {
            if (!laid.speakers.contains(a[0])) laid.speakers.add(a[0]);
        } else if (letter == 'v') {
            if (!in(a[1], 1, 8)) return false;
            laid.b.get(a[0]).want = a[1];
        } else {
            laid.b.get(a[0]).harvest = a[1];
        }
        return true;
    }

    static boolean layable(Laid laid) {
        if (laid.fault != NONE || laid.n() == 0) return false;
        for (int i = 0; i < laid.n(); i++) {
            int rafts = 0;
            for (List<Integer> raft : laid.rafts) if (raft.contains(i)) rafts++;
            int on = laid.b.get(i).on;
            if (rafts > 1 || rafts > 0 && on != NONE) return false;
            if (on != NONE && laid.b.get(on).on != NONE) return false;
        }
        return true;
    }

    /** A crossing with its own starts, rides, width, currents and floods. */
    static final class Crossing {
        final Laid laid;
        final int n;
        int[] t, on, land;
        int[][] far;
        int width;
        long draw = -1;
        boolean[] flood = new boolean[201];

        Crossing(Laid laid) {
            this.laid = laid;
            n = laid.n();
            t = new int[n];
            on = new int[n];
            for (int i = 0; i < n; i++) {
                t[i] = laid.b.get(i).t;
                on[i] = laid.b.get(i).on;
            }
            width = laid.width;
        }

        int current(int m) {
            if (draw < 0) return laid.current(m);
            BigInteger x = BigInteger.valueOf(7919).multiply(BigInteger.valueOf(draw))
                    .add(BigInteger.valueOf(6151L * m)).add(BigInteger.ONE);
            return x.multiply(x).mod(BigInteger.valueOf(65521)).mod(BigInteger.valueOf(6)).intValue();
        }

        int raftOf(int i) {
            for (int k = 0; k < laid.rafts.size(); k++) if (laid.rafts.get(k).contains(i)) return k;
            return NONE;
        }

        boolean helped(int m) {
            if (m < 6 || (m - 1) % 5 != 0) return false;
            for (int i = 0; i < n; i++) if (laid.b.get(i).k == 2 && t[i] < m) return true;
            return false;
        }

        int stroke(int i, int m) {
            Beast x = laid.b.get(i);
            if (m <= t[i]) return 0;
            if (x.k == 2 && m % 5 == 0) return 0;
            if (x.k == 3 && (m == t[i] + 1 || m == t[i] + 2 || m == t[i] + 3)) return 0;
            int takes = current(m);
            if (x.k == 1 && takes > 0) takes--;
            if (x.k != 2 && helped(m)) takes = 0;
            int load = 0;
            for (int j = 0; j < n; j++) if (on[j] == i) load += laid.b.get(j).w;
            int yards = x.s - takes - load / 3;
            return yards < 1 ? 1 : yards;
        }

        int raftStroke(int k, int m) {
            int sum = 0;
            for (int i : laid.rafts.get(k)) {
                if (m <= t[i]) return 0;
                sum += laid.b.get(i).s;
            }
            return Math.max(1, sum / 3 - current(m));
        }

        Crossing go() {
            far = new int[201][n];
            land = new int[n];
            Arrays.fill(land, 1000);
            for (int m = 1; m <= 200; m++) {
                far[m] = far[m - 1].clone();
                if (!flood[m]) {
                    for (int i = 0; i < n; i++) {
                        if (on[i] != NONE || land[i] <= 200) continue;
                        int raft = raftOf(i);
                        far[m][i] += raft == NONE ? stroke(i, m) : raftStroke(raft, m);
                    }
                }
                for (int i = 0; i < n; i++) if (on[i] != NONE) far[m][i] = far[m][on[i]];
                for (int i = 0; i < n; i++) {
                    if (far[m][i] >= width && land[i] > 200) land[i] = m;
                }
            }
            return this;
        }

        List<Integer> order() {
            List<Integer> voices = laid.voices();
            List<Integer> out = new ArrayList<>();
            for (int i : voices) if (on[i] == NONE) out.add(i);
            out.sort(Comparator.comparingInt(i -> land[i]));
            for (int i : voices) if (on[i] != NONE) out.add(out.indexOf(on[i]), i);
            return out;
        }

        int rank(int i) {
            return order().indexOf(i) + 1;
        }
    }

    static final class Model {
        StringBuilder text = new StringBuilder();
        Laid laid = read(FIRST);
        List<int[]> undo = new ArrayList<>();
        List<int[]> kept = new ArrayList<>();
        List<int[]> seen = new ArrayList<>();

        boolean is(int i) {
            return i >= 0 && i < laid.n();
        }

        Crossing now() {
            return new Crossing(laid).go();
        }

        int[] state() {
            int[] s = new int[2 * laid.n()];
            for (int i = 0; i < laid.n(); i++) {
                s[2 * i] = laid.b.get(i).t;
                s[2 * i + 1] = laid.b.get(i).on;
            }
            return s;
        }

        void set(int[] s) {
            for (int i = 0; i < laid.n(); i++) {
                laid.b.get(i).t = s[2 * i];
                laid.b.get(i).on = s[2 * i + 1];
            }
        }

        void mark() {
            undo.add(state());
            if (undo.size() > 8) undo.remove(0);
        }

        boolean ridden(int i) {
            return laid.b.stream().anyMatch(x -> x.on == i);
        }

        int call(int what, int a, int b, int c, int d) {
            int n = laid.n();
            switch (what) {
                case 0:
                    if (a < 32 || a > 126) return BAD;
                    if (text.length() == 200) return FULL;
                    return text.append((char) a).length();
                case 1: {
                    int was = text.length();
                    text.setLength(0);
                    return was;
                }
                case 2: return read(text.toString()).fault;
                case 3: {
                    Laid next = read(text.toString());
                    if (!layable(next)) return NO;
                    laid = next;
                    undo.clear();
                    kept.clear();
                    seen.clear();
                    return laid.n();
                }
                case 4: {
                    if (!is(a) || b < 0 || b > 6) return BAD;
                    Beast x = laid.b.get(a);
                    return new int[] {x.s, x.w, x.k, x.t, x.on, new Crossing(laid).raftOf(a),
                        laid.voices().indexOf(a)}[b];
                }
                case 5: return a < 1 || a > 200 ? BAD : laid.current(a);
                case 6: return !is(a) || b < 0 || b > 200 ? BAD
                        : Math.min(laid.width, now().far[b][a]);
                case 7: {
                    if (!is(a)) return BAD;
                    int m = now().land[a];
                    return m > 200 ? NONE : m;
                }
                case 8: return is(a) ? now().rank(a) : BAD;
                case 9: return a < 1 || a > n ? BAD : now().order().get(a - 1);
                case 10: {
                    if (!is(a) || b < 0 || b > 30) return BAD;
                    mark();
                    int was = laid.b.get(a).t;
                    laid.b.get(a).t = b;
                    return was;
                }
                case 11: {
                    if (!is(a) || !is(b) || a == b) return BAD;
                    int was = laid.b.get(a).on;
                    laid.b.get(a).on = b;
                    boolean fits = layable(laid);
                    laid.b.get(a).on = was;
                    if (!fits) return NO;
                    mark();
                    laid.b.get(a).on = b;
                    return was;
                }
                case 12: {
                    if (!is(a)) return BAD;
                    int was = laid.b.get(a).on;
                    if (was == NONE) return NO;
                    mark();
                    laid.b.get(a).on = NONE;
                    return was;
                }
                case 13:
                    if (undo.isEmpty()) return NO;
                    set(undo.remove(undo.size() - 1));
                    return undo.size();
                case 14: return late(a);
                case 15: return back(a, b);
                case 16: return twos(0, 0);
                case 17: return bridge(a);
                case 18: return calm(a);
                case 19: return order(a);
                case 20: {
                    if (a < 1 || a > 99) return BAD;
                    int sum = 0;
                    List<Integer> order = now().order();
                    for (int y = 0; y < a; y++) {
                        int one = order.get(0);
                        sum += laid.b.get(one).harvest;
                        Collections.rotate(order, -1);
                    }
                    return sum;
                }
                case 21: return odds(a, b, c, d);
                case 22:
                    if (!is(a) || b < 1 || b > n) return BAD;
                    if (seen.size() == 6) return FULL;
                    seen.add(new int[] {a, b});
                    return seen.size();
                case 23: {
                    int were = seen.size();
                    seen.clear();
                    return were;
                }
                case 24: return rides(a);
                case 25: {
                    if (a < 0 || a > 9999 || b < 0 || b > 1) return BAD;
                    Crossing x = new Crossing(laid);
                    x.draw = a;
                    x.go();
                    if (b == 0) return x.order().get(0);
                    return Arrays.stream(x.land).filter(m -> m <= 200).max().orElse(0);
                }
                case 26:
                    if (kept.size() == 2) return FULL;
                    kept.add(state());
                    return kept.size();
                case 27:
                    if (kept.isEmpty()) return NO;
                    set(kept.remove(kept.size() - 1));
                    undo.clear();
                    return kept.size();
                default:
                    if (a < 0 || a > 8) return BAD;
                    return new int[] {n, laid.width, laid.currents.size(), laid.rafts.size(),
                        (int) laid.b.stream().filter(x -> x.on != NONE).count(), seen.size(),
                        undo.size(), kept.size(), text.length()}[a];
            }
        }

        int late(int i) {
            if (!is(i)) return BAD;
            int now = now().rank(i);
            int best = BAD;
            for (int t = 0; t <= 30; t++) {
                Crossing x = new Crossing(laid);
                x.t[i] = t;
                if (x.go().rank(i) <= now) best = t;
            }
            return best;
        }

        int back(int i, int what) {
            if (!is(i) || what < 0 || what > 1) return BAD;
            Crossing probe = new Crossing(laid);
            if (ridden(i) || probe.raftOf(i) != NONE) return NO;
            int best = 99;
            int who = NONE;
            for (int j = -1; j < laid.n(); j++) {
                if (j == i || j >= 0 && laid.b.get(j).on != NONE) continue;
                Crossing x = new Crossing(laid);
                x.on[i] = j < 0 ? NONE : j;
                int rank = x.go().rank(i);
                if (rank < best) {
                    best = rank;
                    who = j < 0 ? NONE : j;
                }
            }
            return what == 0 ? who : best;
        }

        int twos(int i, int used) {
            if (i == laid.n()) return 0;
            int best = twos(i + 1, used);
            Crossing probe = new Crossing(laid);
            if (laid.b.get(i).k != 1 || probe.raftOf(i) != NONE) return best;
            for (int j = 0; j < laid.n(); j++) {
                if ((used >> j & 1) == 0 && laid.b.get(j).k != 1 && probe.raftOf(j) == NONE
                        && laid.b.get(j).w > laid.b.get(i).w) {
                    best = Math.max(best, 1 + twos(i + 1, used | 1 << j));
                }
            }
            return best;
        }

        int bridge(int i) {
            if (i != -1 && !is(i)) return BAD;
            int bits = 0;
            int many = 0;
            for (int w = 1; w <= 99; w++) {
                Crossing x = new Crossing(laid);
                x.width = w;
                int first = x.go().order().get(0);
                bits |= 1 << first;
                if (first == i) many++;
            }
            return i == -1 ? bits : many;
        }

        int calm(int what) {
            if (what < 0 || what > 1) return BAD;
            Crossing x = now();
            List<Integer> twos = new ArrayList<>();
            for (int i = 0; i < laid.n(); i++) {
                for (int j = i + 1; j < laid.n(); j++) {
                    int wi = laid.b.get(i).want;
                    int wj = laid.b.get(j).want;
                    int ri = x.rank(i);
                    int rj = x.rank(j);
                    if (wi != 0 && wj != 0 && Math.abs(wi - rj) < Math.abs(wi - ri)
                            && Math.abs(wj - ri) < Math.abs(wj - rj)) twos.add(8 * i + j);
                }
            }
            return what == 0 ? twos.size() : twos.isEmpty() ? NONE : twos.get(0);
        }

        int[] bestWay;
        int bestOff;

        int order(int rank) {
            if (rank < 0 || rank > laid.n()) return BAD;
            bestWay = null;
            ways(new int[laid.n()], 0, 0, 0);
            return rank == 0 ? bestOff : bestWay[rank - 1];
        }

        void ways(int[] way, int at, int used, int off) {
            if (at == way.length) {
                if (bestWay == null || off < bestOff) {
                    bestWay = way.clone();
                    bestOff = off;
                }
                return;
            }
            for (int i = 0; i < way.length; i++) {
                if ((used >> i & 1) == 1) continue;
                way[at] = i;
                int want = laid.b.get(i).want;
                ways(way, at + 1, used | 1 << i, off + (want == 0 ? 0 : Math.abs(want - at - 1)));
            }
        }

        int odds(int i, int n, int x, int part) {
            if (!is(i) || n < 0 || n > 5 || x < 0 || x > 10 || part < 0 || part > 1) return BAD;
            BigInteger above = BigInteger.ZERO;
            for (int f = 0; f < 1 << n; f++) {
                Crossing one = new Crossing(laid);
                BigInteger p = BigInteger.ONE;
                for (int m = 1; m <= n; m++) {
                    one.flood[m] = (f >> m - 1 & 1) == 1;
                    p = p.multiply(BigInteger.valueOf(one.flood[m] ? x : 10 - x));
                }
                if (one.go().order().get(0) == i) above = above.add(p);
            }
            BigInteger below = BigInteger.TEN.pow(n);
            BigInteger gcd = above.gcd(below);
            return (part == 0 ? above : below).divide(gcd).intValueExact();
        }

        int rides(int what) {
            if (what < 0 || what > 1) return BAD;
            List<Integer> ways = new ArrayList<>();
            for (int code = 0; code <= 64; code++) {
                Crossing x = new Crossing(laid);
                Arrays.fill(x.on, NONE);
                if (code < 64) {
                    int i = code / 8;
                    int j = code % 8;
                    if (!is(i) || !is(j) || i == j || x.raftOf(i) != NONE) continue;
                    x.on[i] = j;
                }
                x.go();
                boolean all = true;
                for (int[] s : seen) all &= x.rank(s[0]) == s[1];
                if (all) ways.add(code);
            }
            return what == 0 ? ways.size() : ways.isEmpty() ? NONE : ways.get(0);
        }
    }

    static int call(CrossedFirst x, int what, int a, int b, int c, int d) {
        switch (what) {
            case 0: return x.write(a);
            case 1: return x.wipe();
            case 2: return x.fault();
            case 3: return x.lay();
            case 4: return x.beast(a, b);
            case 5: return x.current(a);
            case 6: return x.where(a, b);
            case 7: return x.lands(a);
            case 8: return x.rank(a);
            case 9: return x.who(a);
            case 10: return x.start(a, b);
            case 11: return x.ride(a, b);
            case 12: return x.leave(a);
            case 13: return x.undo();
            case 14: return x.late(a);
            case 15: return x.back(a, b);
            case 16: return x.twos();
            case 17: return x.bridge(a);
            case 18: return x.calm(a);
            case 19: return x.order(a);
            case 20: return x.harvest(a);
            case 21: return x.odds(a, b, c, d);
            case 22: return x.seen(a, b);
            case 23: return x.forget();
            case 24: return x.rides(a);
            case 25: return x.river(a, b);
            case 26: return x.keep();
            case 27: return x.restore();
            default: return x.count(a);
        }
    }

    static final String[] NAMES = {"write", "wipe", "fault", "lay", "beast", "current", "where",
        "lands", "rank", "who", "start", "ride", "leave", "undo", "late", "back", "twos", "bridge",
        "calm", "order", "harvest", "odds", "seen", "forget", "rides", "river", "keep", "restore",
        "count"};
    static int wrong = 0;
    static final int[] calls = new int[NAMES.length];
    static final StringBuilder trail = new StringBuilder();
    /** What an object answers behind this many calls is free. */
    static final int MOST_CALLS = 512;
    static int made = 0;

    static void both(CrossedFirst x, Model y, int what, int... args) {
        if (made == MOST_CALLS) return;
        made++;
        int[] a = Arrays.copyOf(args, 4);
        int got = call(x, what, a[0], a[1], a[2], a[3]);
        int due = y.call(what, a[0], a[1], a[2], a[3]);
        calls[what]++;
        trail.append(NAMES[what]).append(Arrays.toString(args)).append(" = ").append(due).append('\n');
        if (got != due && wrong++ < 5) {
            System.out.println(trail + "answered " + got + ", text " + y.text);
        }
    }

    static String number(Random r, int low, int high) {
        int x = low + r.nextInt(high - low + 1);
        if (r.nextInt(60) == 0) x = r.nextInt(100);
        return x < 10 && r.nextInt(20) == 0 ? "0" + x : "" + x;
    }

    static String randomItem(Random r, char letter, int n) {
        int top = Math.max(0, n - 1);
        String one = letter + "";
        switch (letter) {
            case 'b': return one + number(r, 1, 9) + "," + number(r, 1, 9) + "," + number(r, 0, 3)
                    + "," + number(r, 0, r.nextBoolean() ? 30 : 6) + ";";
            case 'w': return one + number(r, 1, 99) + ";";
            case 'c': return one + number(r, 0, r.nextBoolean() ? 20 : 99) + "," + number(r, 0, 5) + ";";
            case 'r': return one + number(r, 0, top) + "," + number(r, 0, top) + ";";
            case 'a': return one + number(r, 0, top) + "," + number(r, 0, top) + ","
                    + number(r, 0, top) + ";";
            case 's': return one + number(r, 0, top) + ";";
            case 'v': return one + number(r, 0, top) + "," + number(r, 1, 8) + ";";
            default: return one + number(r, 0, top) + "," + number(r, 0, 99) + ";";
        }
    }

    /** A text that mostly can be laid; now and then a sign of it is spoilt. */
    static String randomText(Random r) {
        StringBuilder text = new StringBuilder();
        int n = r.nextInt(9);
        for (int i = 0; i < n; i++) text.append(randomItem(r, 'b', n));
        boolean careless = r.nextInt(4) == 0;
        int more = r.nextInt(20);
        for (int k = 0; k < more; k++) {
            String item = randomItem(r, "wcrasvycrvy".charAt(r.nextInt(11)), n);
            if (text.length() + item.length() > 200) break;
            Laid next = read(text + item);
            if (careless || next.fault == NONE && layable(next)) text.append(item);
        }
        if (r.nextInt(5) == 0 && text.length() > 0) {
            int at = r.nextInt(text.length());
            if (r.nextBoolean()) text.deleteCharAt(at);
            else text.setCharAt(at, ";,b0 19xawcrsvy~".charAt(r.nextInt(16)));
        }
        return text.toString();
    }

    static int beastArg(Random r, int n) {
        int dice = r.nextInt(25);
        if (dice == 0) return new int[] {-1, n, 8, Integer.MIN_VALUE, Integer.MAX_VALUE}[r.nextInt(5)];
        return n == 0 ? 0 : r.nextInt(n);
    }

    static int num(Random r, int low, int high) {
        int dice = r.nextInt(40);
        if (dice == 0) return low - 1;
        if (dice == 1) return high + 1;
        if (dice == 2) return new int[] {Integer.MIN_VALUE, Integer.MAX_VALUE}[r.nextInt(2)];
        if (dice < 5) return low;
        if (dice < 7) return high;
        return low + r.nextInt(high - low + 1);
    }

    static void randomCall(Random r, CrossedFirst x, Model y) {
        int n = y.laid.n();
        int what = 4 + r.nextInt(25);
        switch (what) {
            case 4: both(x, y, what, beastArg(r, n), num(r, 0, 6)); break;
            case 5: both(x, y, what, num(r, 1, 200)); break;
            case 6: both(x, y, what, beastArg(r, n), r.nextBoolean() ? num(r, 0, 200) : num(r, 0, 30)); break;
            case 7: case 8: case 12: case 14: both(x, y, what, beastArg(r, n)); break;
            case 9: both(x, y, what, num(r, 1, n)); break;
            case 10: both(x, y, what, beastArg(r, n), num(r, 0, r.nextBoolean() ? 30 : 5)); break;
            case 11: both(x, y, what, beastArg(r, n), beastArg(r, n)); break;
            case 13:
                if (r.nextInt(3) > 0) return;
                for (int k = r.nextInt(10); k >= 0; k--) both(x, y, what);
                break;
            case 15: both(x, y, what, beastArg(r, n), num(r, 0, 1)); break;
            case 17: both(x, y, what, num(r, -1, n - 1)); break;
            case 18: case 24: both(x, y, what, num(r, 0, 1)); break;
            case 19: both(x, y, what, num(r, 0, n)); break;
            case 20: both(x, y, what, num(r, 1, 99)); break;
            case 21: both(x, y, what, beastArg(r, n), num(r, 0, 5), num(r, 0, 10), num(r, 0, 1)); break;
            case 22: {
                int i = beastArg(r, n);
                boolean asItIs = i >= 0 && i < n && r.nextInt(3) > 0;
                both(x, y, what, i, asItIs ? y.now().rank(i) : num(r, 1, n));
                break;
            }
            case 25: both(x, y, what, num(r, 0, 9999), num(r, 0, 1)); break;
            case 27: if (r.nextInt(2) == 0) both(x, y, what); break;
            case 28: both(x, y, what, num(r, 0, 8)); break;
            default: both(x, y, what);
        }
    }

    static void writeAll(CrossedFirst x, Model y, String text) {
        for (int k = 0; k < text.length(); k++) both(x, y, 0, text.charAt(k));
    }

    static void run(long seed) {
        Random r = new Random(seed);
        CrossedFirst x = new CrossedFirst();
        Model y = new Model();
        trail.setLength(0);
        made = 0;
        int rounds = 1 + r.nextInt(4);
        for (int round = 0; round < rounds; round++) {
            if (r.nextInt(5) > 0) {
                both(x, y, 1);
                writeAll(x, y, randomText(r));
                if (r.nextInt(10) == 0) both(x, y, 0, new int[] {31, 127, -1, 32, 126}[r.nextInt(5)]);
                both(x, y, 2);
                both(x, y, 3);
            }
            for (int k = 0; k < 40; k++) randomCall(r, x, y);
        }
    }

    public static void main(String[] args) {
        int runs = args.length > 0 ? Integer.parseInt(args[0]) : 800;
        int first = args.length > 1 ? Integer.parseInt(args[1]) : 1;
        for (int k = 0; k < runs; k++) run(first + k);
        for (int k = 0; k < calls.length; k++) {
            if (calls[k] == 0) {
                wrong++;
                System.out.println(NAMES[k] + " was never called");
            }
        }
        System.out.println(wrong == 0 ? "all answers are as due" : wrong + " answers are not as due");
        if (wrong != 0) System.exit(1);
    }
}
