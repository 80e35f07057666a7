import java.util.ArrayList;
import java.util.Arrays;
import java.util.Comparator;
import java.util.HashSet;
import java.util.List;
import java.util.Set;
import java.util.regex.Pattern;

/**
 * ../shared/DOC.md once more, by other ways than the program's: everything is played out on copies,
 * with no thought of what it costs, so that the two can be held against one another.
 */
final class Oracle {
    private static final int UNKNOWN = -1, OUTSIDE = -2, STATE = -3, FULL = -4, NONE = -9;
    private static final long LOST = Long.MIN_VALUE;
    private static final Pattern TEXT = Pattern.compile("d[0-9][0-3](;[prk][0-7][0-7][0-9]){2,6}");
    private static final String SOME_TEXT = "d00;p000;p000;p000;p000;p000;p000";

    private static class Plain {
        int smell, was, place;

        int kind() {
            return 0;
        }

        int scent() {
            return (smell >> 2 & 1) + (smell >> 1 & 1) + (smell & 1);
        }

        final int toldPlainly(Oracle o) {
            o.begins(1);
            return smell;
        }

        int told(Oracle o) {
            return toldPlainly(o);
        }

        int whistled(Oracle o, int number) {
            o.begins(4);
            return number;
        }
    }

    private static class Rank extends Plain {
        @Override
        int kind() {
            return 1;
        }

        @Override
        int scent() {
            return super.scent() + 1;
        }

        @Override
        int told(Oracle o) {
            o.begins(2);
            return toldPlainly(o) + 100;
        }
    }

    private static final class Reeking extends Rank {
        @Override
        int kind() {
            return 2;
        }

        @Override
        int scent() {
            return super.scent() * 2;
        }

        @Override
        int told(Oracle o) {
            o.begins(3);
            int asRank = super.told(o);
            return asRank + toldPlainly(o);
        }

        @Override
        int whistled(Oracle o, int number) {
            o.begins(5);
            return 70;
        }
    }

    private static Plain body(int kind, int smell, int was, int place) {
        Plain one = kind == 2 ? new Reeking() : kind == 1 ? new Rank() : new Plain();
        one.smell = smell;
        one.was = was;
        one.place = place;
        return one;
    }

    private static final class World {
        int post, lax;
        final List<Plain> people = new ArrayList<>();

        World copied() {
            World other = new World();
            other.post = post;
            other.lax = lax;
            for (Plain q : people) {
                other.people.add(body(q.kind(), q.smell, q.was, q.place));
            }
            return other;
        }

        boolean smelt(int p) {
            Plain q = people.get(p);
            return Math.abs(q.place - post) <= q.scent();
        }

        int unlike(int p, int q) {
            int differing = people.get(p).was ^ people.get(q).smell;
            return (differing >> 2 & 1) + (differing >> 1 & 1) + (differing & 1);
        }

        int goes(int p) {
            List<Integer> may = new ArrayList<>();
            for (int q = 0; q < people.size(); q++) {
                if (smelt(q) && unlike(p, q) <= lax) {
                    may.add(q);
                }
            }
            may.sort(Comparator.<Integer>comparingInt(q -> unlike(p, q))
                    .thenComparingInt(q -> Math.abs(people.get(q).place - post))
                    .thenComparingInt(q -> q));
            return may.isEmpty() ? NONE : may.get(0);
        }

        int send(int p) {
            int to = goes(p);
            if (to != NONE) {
                people.get(to).was = people.get(to).smell;
            }
            return to;
        }

        int coming() {
            int many = 0;
            for (int p = 0; p < people.size(); p++) {
                many += goes(p) == p ? 1 : 0;
            }
            return many;
        }

        List<Integer> pasts() {
            List<Integer> row = new ArrayList<>();
            for (Plain q : people) {
                row.add(q.was);
            }
            return row;
        }
    }

    private World now = new World();
    private final int[][] rows = new int[4][];
    private final int[] lanes = new int[4];
    private final List<int[]> readings = new ArrayList<>();
    private int letters, trace, fault;

    private void begins(int number) {
        trace = trace * 31 + number;
    }

    private boolean none(int p) {
        return p < 0 || p >= now.people.size();
    }

    private static boolean out(int v, int least, int most) {
        return v < least || v > most;
    }

    private int met(int which) {
        fault = which;
        return -10 - which;
    }

    private boolean beyond(int k, long i, long n) {
        return i < 0 || n < 0 || i > rows[k].length || i + n > rows[k].length;
    }

    int moor(int sheet, int lane, int i, int n) {
        fault = 0;
        if (out(sheet, 0, 3)) return UNKNOWN;
        if (out(lane, 0, 2)) return OUTSIDE;
        if (rows[sheet] != null && lanes[sheet] != lane) return met(2);
        if (rows[sheet] == null) return met(1);
        if (n < 0) return met(4);
        if (beyond(sheet, i, n)) return met(3);
        StringBuilder read = new StringBuilder();
        for (int k = 0; k < n; k++) {
            int code = rows[sheet][i + k];
            read.append(code < 0 || code > 127 ? '?' : (char) code);
        }
        String text = read.toString();
        if (!TEXT.matcher(text).matches()) {
            int good = 0;
            while (good < n && begin(text.substring(0, good + 1))) good++;
            return -100 - good;
        }
        now = new World();
        now.post = text.charAt(1) - '0';
        now.lax = text.charAt(2) - '0';
        for (int at = 3; at < n; at += 5) {
            now.people.add(body("prk".indexOf(text.charAt(at + 1)), text.charAt(at + 2) - '0',
                    text.charAt(at + 3) - '0', text.charAt(at + 4) - '0'));
        }
        readings.clear();
        letters = 0;
        return now.people.size();
    }

    /** Whether some TEXT begins so: the rest of another one makes it one. */
    private static boolean begin(String text) {
        return text.length() <= SOME_TEXT.length()
                && TEXT.matcher(text + SOME_TEXT.substring(text.length())).matches();
    }

    int ofPerson(int p, int what) {
        if (none(p)) return UNKNOWN;
        if (out(what, 0, 6)) return OUTSIDE;
        Plain q = now.people.get(p);
        return new int[] {q.kind(), q.smell, q.was, q.place, q.scent(), now.smelt(p) ? 1 : 0, now.goes(p)}[what];
    }

    int post(int place) {
        if (now.people.isEmpty()) return STATE;
        if (out(place, 0, 9)) return OUTSIDE;
        int before = now.post;
        now.post = place;
        return before;
    }

    int lax(int v) {
        if (now.people.isEmpty()) return STATE;
        if (out(v, 0, 3)) return OUTSIDE;
        int before = now.lax;
        now.lax = v;
        return before;
    }

    int bathe(int p, int v) {
        if (none(p)) return UNKNOWN;
        if (out(v, 0, 7)) return OUTSIDE;
        int before = now.people.get(p).smell;
        now.people.get(p).smell = v;
        return before;
    }

    int moves(int p, int v) {
        if (none(p)) return UNKNOWN;
        if (out(v, 0, 9)) return OUTSIDE;
        int before = now.people.get(p).place;
        now.people.get(p).place = v;
        return before;
    }

    int send(int p) {
        if (none(p)) return UNKNOWN;
        letters++;
        return now.send(p);
    }

    int comes(int what) {
        if (now.people.isEmpty()) return STATE;
        if (out(what, 0, 1)) return OUTSIDE;
        int set = 0;
        for (int p = 0; p < now.people.size(); p++) {
            int to = now.copied().send(p);
            if (to != NONE && (what == 1 || to == p)) set |= 1 << to;
        }
        return set;
    }

    int round(int sheet, int lane, int i, int n, int what) {
        fault = 0;
        if (out(sheet, 0, 3)) return UNKNOWN;
        if (out(lane, 0, 2) || out(n, 0, 20) || out(what, 0, 3) && out(what, 10, 15)) return OUTSIDE;
        if (now.people.isEmpty()) return STATE;
        if (rows[sheet] != null && lanes[sheet] != lane) return met(2);
        if (rows[sheet] == null) return met(1);
        if (beyond(sheet, i, 2L * n)) return met(3);
        int[] pairs = Arrays.copyOfRange(rows[sheet], i, i + 2 * n);
        for (int k = 0; k < n; k++) {
            if (out(pairs[2 * k + 1], 0, 8) && out(pairs[2 * k + 1], 10, 19)) return OUTSIDE;
            if (none(pairs[2 * k])) return UNKNOWN;
        }
        World then = now.copied();
        int came = 0, wrong = NONE, got = 0, home = 0;
        for (int k = 0; k < n; k++) {
            Plain q = then.people.get(pairs[2 * k]);
            int act = pairs[2 * k + 1];
            if (act >= 10) q.place = act - 10;
            if (act <= 7) q.smell = act;
            if (act != 8) continue;
            int to = then.send(pairs[2 * k]);
            if (to == pairs[2 * k]) came++;
            if (to != pairs[2 * k] && wrong == NONE) wrong = k;
            if (to == NONE) home++;
            if (to != NONE) got |= 1 << to;
        }
        if (what >= 10) return what - 10 < then.people.size() ? then.people.get(what - 10).was : NONE;
        return new int[] {came, wrong, got, home}[what];
    }

    int strict(int p) {
        if (none(p)) return UNKNOWN;
        for (int v = 0; v <= 3; v++) {
            World other = now.copied();
            other.lax = v;
            if (other.goes(p) == p) return v;
        }
        return NONE;
    }

    int site(int what) {
        if (now.people.isEmpty()) return STATE;
        if (out(what, 0, 1)) return OUTSIDE;
        int[] many = new int[10];
        for (int place = 0; place < 10; place++) {
            World other = now.copied();
            other.post = place;
            many[place] = other.coming();
        }
        int most = Arrays.stream(many).max().getAsInt();
        int first = 0;
        while (many[first] < most) first++;
        return what == 0 ? first : most;
    }

    int order(int k) {
        if (now.people.isEmpty()) return STATE;
        if (out(k, -1, 5)) return OUTSIDE;
        if (k >= now.people.size()) return NONE;
        List<Integer> best = new ArrayList<>();
        int most = tryOrders(now, new ArrayList<>(), 0, -1, best);
        return k < 0 ? most : best.get(k);
    }

    private static int tryOrders(World then, List<Integer> sent, int came, int most, List<Integer> best) {
        if (sent.size() == then.people.size()) {
            if (came <= most) return most;
            best.clear();
            best.addAll(sent);
            return came;
        }
        int known = most;
        for (int p = 0; p < then.people.size(); p++) {
            if (sent.contains(p)) continue;
            World after = then.copied();
            List<Integer> longer = new ArrayList<>(sent);
            longer.add(p);
            known = tryOrders(after, longer, came + (after.send(p) == p ? 1 : 0), known, best);
        }
        return known;
    }

    int ahead(int p) {
        if (none(p)) return UNKNOWN;
        Set<List<Integer>> seen = new HashSet<>();
        List<World> layer = List.of(now.copied());
        seen.add(now.pasts());
        for (int sent = 0; !layer.isEmpty(); sent++) {
            List<World> next = new ArrayList<>();
            for (World then : layer) {
                if (then.goes(p) == p) return sent;
                for (int q = 0; q < then.people.size(); q++) {
                    World after = then.copied();
                    after.send(q);
                    if (seen.add(after.pasts())) next.add(after);
                }
            }
            layer = next;
        }
        return NONE;
    }

    int reading(int p, int to) {
        if (none(p)) return UNKNOWN;
        if (none(to) && to != NONE) return UNKNOWN;
        if (readings.size() == 8) return FULL;
        readings.add(new int[] {p, to});
        return readings.size() - 1;
    }

    int back(int k) {
        if (out(k, 0, readings.size())) return OUTSIDE;
        for (int n = 0; n < k; n++) readings.remove(readings.size() - 1);
        return readings.size();
    }

    private boolean so(World other) {
        return readings.stream().allMatch(r -> other.goes(r[0]) == r[1]);
    }

    int smells(int p) {
        if (none(p)) return UNKNOWN;
        int set = 0;
        for (int v = 0; v < 8; v++) {
            World other = now.copied();
            other.people.get(p).smell = v;
            if (so(other)) set += 1 << v;
        }
        return set;
    }

    int pasts(int p) {
        if (none(p)) return UNKNOWN;
        int set = 0;
        for (int v = 0; v < 8; v++) {
            World other = now.copied();
            other.people.get(p).was = v;
            if (so(other)) set += 1 << v;
        }
        return set;
    }

    int kinds(int p) {
        if (none(p)) return UNKNOWN;
        int set = 0;
        for (int v = 0; v < 3; v++) {
            World other = now.copied();
            Plain q = now.people.get(p);
            other.people.set(p, body(v, q.smell, q.was, q.place));
            if (so(other)) set += 1 << v;
        }
        return set;
    }

    long odds(int p, int which) {
        if (none(p) || out(which, 0, 1)) return LOST;
        int upper = 0;
        for (int v = 0; v < 8; v++) {
            World other = now.copied();
            other.people.get(p).smell = v;
            if (other.goes(p) == p) upper++;
        }
        int common = 8;
        while (upper % common != 0 || 8 % common != 0) common--;
        return (which == 0 ? upper : 8) / common;
    }

    int sheet(int k, int lane, int n) {
        fault = 0;
        if (out(k, 0, 3)) return UNKNOWN;
        if (out(lane, 0, 2) || n > 60) return OUTSIDE;
        if (n < 0) return met(4);
        rows[k] = new int[n];
        lanes[k] = lane;
        return 1;
    }

    int lose(int k) {
        if (out(k, 0, 3)) return UNKNOWN;
        int had = rows[k] == null ? 0 : 1;
        rows[k] = null;
        return had;
    }

    int put(int k, int i, int v) {
        fault = 0;
        if (out(k, 0, 3)) return UNKNOWN;
        if (rows[k] == null) return met(1);
        if (beyond(k, i, 1)) return met(3);
        int cut = lanes[k] == 0 ? 24 : lanes[k] == 1 ? 16 : 0;
        rows[k][i] = v << cut >> cut;
        return 1;
    }

    long cell(int k, int i, int lane) {
        fault = 0;
        if (out(k, 0, 3) || out(lane, 0, 2)) return LOST;
        if (rows[k] != null && lanes[k] != lane) fault = 2;
        else if (rows[k] == null) fault = 1;
        else if (beyond(k, i, 1)) fault = 3;
        return fault != 0 ? LOST : rows[k][i];
    }

    int copy(int k, int i, int other, int j, int n) {
        fault = 0;
        if (out(k, 0, 3) || out(other, 0, 3)) return UNKNOWN;
        if (rows[k] == null || rows[other] == null) return met(1);
        if (lanes[k] != lanes[other]) return met(2);
        if (beyond(k, i, n) || beyond(other, j, n)) return met(3);
        int[] before = rows[k].clone();
        for (int c = 0; c < n; c++) rows[other][j + c] = before[i + c];
        return n;
    }

    int tell(int p) {
        return none(p) ? UNKNOWN : now.people.get(p).told(this);
    }

    int whistle(int p) {
        return none(p) ? UNKNOWN : now.people.get(p).whistled(this, p);
    }

    int as(int p, int kind) {
        fault = 0;
        if (none(p)) return UNKNOWN;
        if (out(kind, 0, 2)) return OUTSIDE;
        Plain q = now.people.get(p);
        boolean is = kind == 0 || kind == 1 && q instanceof Rank || kind == 2 && q instanceof Reeking;
        return is ? 1 : met(2);
    }

    int trace() {
        return trace;
    }

    int fault() {
        return fault;
    }

    int many(int what) {
        if (out(what, 0, 4)) return OUTSIDE;
        return new int[] {now.people.size(), now.post, now.lax, letters, readings.size()}[what];
    }
}
