import java.math.BigInteger;
import java.util.ArrayList;
import java.util.List;

/**
 * The document's words, one by one and without regard to speed, by other ways than the class goes:
 * rounds by walking all of them, fits by the conditions of Lagrange, values by the balance of knots.
 */
final class Model {
    /** A fraction in lowest terms, below above 0. */
    record Part(BigInteger above, BigInteger below) implements Comparable<Part> {
        static final Part ZERO = of(0);

        static Part of(long n) {
            return new Part(BigInteger.valueOf(n), BigInteger.ONE);
        }

        static Part make(BigInteger a, BigInteger b) {
            BigInteger g = a.gcd(b);
            if (b.signum() < 0) {
                g = g.negate();
            }
            return new Part(a.divide(g), b.divide(g));
        }

        Part plus(Part o) {
            return make(above.multiply(o.below).add(o.above.multiply(below)), below.multiply(o.below));
        }

        Part minus(Part o) {
            return plus(new Part(o.above.negate(), o.below));
        }

        Part times(Part o) {
            return make(above.multiply(o.above), below.multiply(o.below));
        }

        Part by(Part o) {
            return make(above.multiply(o.below), below.multiply(o.above));
        }

        boolean isZero() {
            return above.signum() == 0;
        }

        long tell(int what) {
            return (what == 0 ? above : below).longValueExact();
        }

        @Override
        public int compareTo(Part o) {
            return above.multiply(o.below).compareTo(o.above.multiply(below));
        }
    }

    /** One flow. */
    static final class Flow {
        int from;
        int to;
        boolean read;
        int reading;
        int miss = 1;
        int price = 1;
        int kind = -1;
        /** Null stands for no number. */
        Integer[] sheet = new Integer[0];

        Flow copy() {
            Flow f = new Flow();
            f.from = from;
            f.to = to;
            f.read = read;
            f.reading = reading;
            f.miss = miss;
            f.price = price;
            f.kind = kind;
            f.sheet = sheet.clone();
            return f;
        }
    }

    /** The state. */
    int knots = 2;
    List<Flow> flows = new ArrayList<>();

    Model copy() {
        Model m = new Model();
        m.knots = knots;
        for (Flow f : flows) {
            m.flows.add(f.copy());
        }
        return m;
    }

    Model without(int... unread) {
        Model m = copy();
        for (int f : unread) {
            m.flows.get(f).read = false;
            m.flows.get(f).reading = 0;
        }
        return m;
    }

    boolean isFlow(int f) {
        return f >= 0 && f < flows.size();
    }

    boolean isRead(int f) {
        return flows.get(f).read;
    }

    /** The least knot of each knot's heap. */
    int[] heaps() {
        return gather(false);
    }

    /** Spreads from each knot, the least first, over the unread flows or over all. */
    private int[] gather(boolean all) {
        int[] least = new int[knots];
        java.util.Arrays.fill(least, -1);
        for (int k = 0; k < knots; k++) {
            if (least[k] < 0) {
                spread(k, k, all, least);
            }
        }
        return least;
    }

    private void spread(int k, int mark, boolean all, int[] least) {
        if (least[k] >= 0) {
            return;
        }
        least[k] = mark;
        for (Flow f : flows) {
            if (all || !f.read) {
                if (f.from == k) {
                    spread(f.to, mark, all, least);
                }
                if (f.to == k) {
                    spread(f.from, mark, all, least);
                }
            }
        }
    }

    int heapCount() {
        int[] heaps = heaps();
        int n = 0;
        for (int k = 0; k < knots; k++) {
            n += heaps[k] == k ? 1 : 0;
        }
        return n;
    }

    /** All rounds of unread flows through f, each from f on as it is directed. */
    List<List<Integer>> rounds(int f) {
        List<List<Integer>> found = new ArrayList<>();
        if (isRead(f)) {
            return found;
        }
        List<Integer> path = new ArrayList<>();
        path.add(f);
        boolean[] been = new boolean[knots];
        been[flows.get(f).to] = true;
        walk(flows.get(f).to, flows.get(f).from, path, been, found);
        return found;
    }

    private void walk(int at, int end, List<Integer> path, boolean[] been, List<List<Integer>> found) {
        if (at == end) {
            found.add(new ArrayList<>(path));
            return;
        }
        for (int g = 0; g < flows.size(); g++) {
            Flow flow = flows.get(g);
            if (flow.read || path.contains(g) || flow.from != at && flow.to != at) {
                continue;
            }
            int next = flow.from == at ? flow.to : flow.from;
            if (been[next]) {
                continue;
            }
            been[next] = true;
            path.add(g);
            walk(next, end, path, been, found);
            path.remove(path.size() - 1);
            been[next] = false;
        }
    }

    boolean seen(int f) {
        return isRead(f) || rounds(f).isEmpty();
    }

    boolean allSeen() {
        for (int f = 0; f < flows.size(); f++) {
            if (!seen(f)) {
                return false;
            }
        }
        return true;
    }

    /** Null if f is seen. */
    List<Integer> round(int f) {
        List<Integer> best = null;
        for (List<Integer> r : rounds(f)) {
            if (best == null || comesAhead(r, best)) {
                best = r;
            }
        }
        return best;
    }

    private static boolean comesAhead(List<Integer> a, List<Integer> b) {
        if (a.size() != b.size()) {
            return a.size() < b.size();
        }
        for (int i = 0; i < a.size(); i++) {
            if (!a.get(i).equals(b.get(i))) {
                return a.get(i) < b.get(i);
            }
        }
        return false;
    }

    boolean spare(int f) {
        int[] heaps = heaps();
        return isRead(f) && heaps[flows.get(f).from] != heaps[flows.get(f).to];
    }

    /** The fit's numbers by flow; null for an unread one. */
    Part[] fit() {
        int n = flows.size();
        int[] heaps = heaps();
        // The unknowns: x of each flow (0 if it is unread), then a multiplier for each knot's heap.
        Part[][] rows = new Part[n + knots][n + knots + 1];
        for (Part[] row : rows) {
            java.util.Arrays.fill(row, Part.ZERO);
        }
        for (int f = 0; f < n; f++) {
            Flow flow = flows.get(f);
            rows[f][f] = Part.of(1);
            if (!flow.read) {
                continue;
            }
            int a = heaps[flow.from];
            int b = heaps[flow.to];
            rows[f][n + a] = rows[f][n + a].plus(Part.of(flow.miss));
            rows[f][n + b] = rows[f][n + b].minus(Part.of(flow.miss));
            rows[f][n + knots] = Part.of(flow.reading);
            rows[n + a][f] = rows[n + a][f].plus(Part.of(1));
            rows[n + b][f] = rows[n + b][f].minus(Part.of(1));
        }
        Part[] all = solve(rows, n + knots);
        Part[] x = new Part[n];
        for (int f = 0; f < n; f++) {
            x[f] = isRead(f) ? all[f] : null;
        }
        return x;
    }

    /** One answer of a system that has some; unknowns that are free are 0. */
    private static Part[] solve(Part[][] rows, int unknowns) {
        int[] rowOf = new int[unknowns];
        java.util.Arrays.fill(rowOf, -1);
        int done = 0;
        for (int c = 0; c < unknowns; c++) {
            int p = done;
            while (p < rows.length && rows[p][c].isZero()) {
                p++;
            }
            if (p == rows.length) {
                continue;
            }
            Part[] swap = rows[p];
            rows[p] = rows[done];
            rows[done] = swap;
            for (int i = 0; i < rows.length; i++) {
                if (i == done || rows[i][c].isZero()) {
                    continue;
                }
                Part q = rows[i][c].by(rows[done][c]);
                for (int j = c; j <= unknowns; j++) {
                    rows[i][j] = rows[i][j].minus(q.times(rows[done][j]));
                }
            }
            rowOf[c] = done;
            done++;
        }
        for (int i = done; i < rows.length; i++) {
            if (!rows[i][unknowns].isZero()) {
                throw new IllegalStateException("the system has no answer");
            }
        }
        Part[] x = new Part[unknowns];
        for (int c = 0; c < unknowns; c++) {
            x[c] = rowOf[c] < 0 ? Part.ZERO : rows[rowOf[c]][unknowns].by(rows[rowOf[c]][c]);
        }
        return x;
    }

    /** Null if f is not seen. */
    Part value(int f) {
        if (!seen(f)) {
            return null;
        }
        Part[] fit = fit();
        if (fit[f] != null) {
            return fit[f];
        }
        int n = flows.size();
        Part[][] rows = new Part[knots][n + 1];
        for (Part[] row : rows) {
            java.util.Arrays.fill(row, Part.ZERO);
        }
        for (int g = 0; g < n; g++) {
            Flow flow = flows.get(g);
            int column = fit[g] == null ? g : n;
            Part much = fit[g] == null ? Part.of(1) : fit[g].times(Part.of(-1));
            rows[flow.to][column] = rows[flow.to][column].plus(much);
            rows[flow.from][column] = rows[flow.from][column].minus(much);
        }
        return solve(rows, n)[f];
    }

    Part change(int f) {
        return fit()[f].minus(Part.of(flows.get(f).reading));
    }

    /** By knot, from the heap of force 0 on along the meters, as the document says it. */
    Part[] forces() {
        int[] heaps = heaps();
        Part[] x = fit();
        Part[] forces = new Part[knots];
        int[] piece = gather(true);
        for (int k = 0; k < knots; k++) {
            if (piece[k] == k) {
                forces[heaps[k]] = Part.ZERO;
            }
        }
        for (int again = 0; again < knots; again++) {
            for (int f = 0; f < flows.size(); f++) {
                Flow flow = flows.get(f);
                if (!flow.read) {
                    continue;
                }
                Part step = x[f].minus(Part.of(flow.reading)).by(Part.of(flow.miss));
                int a = heaps[flow.from];
                int b = heaps[flow.to];
                if (forces[a] != null && forces[b] == null) {
                    forces[b] = forces[a].plus(step);
                } else if (forces[b] != null && forces[a] == null) {
                    forces[a] = forces[b].minus(step);
                }
            }
        }
        Part[] byKnot = new Part[knots];
        for (int k = 0; k < knots; k++) {
            byKnot[k] = forces[heaps[k]];
        }
        return byKnot;
    }

    Part test() {
        Part[] x = fit();
        Part sum = Part.ZERO;
        for (int f = 0; f < flows.size(); f++) {
            if (isRead(f)) {
                Part change = x[f].minus(Part.of(flows.get(f).reading));
                sum = sum.plus(change.times(change).by(Part.of(flows.get(f).miss)));
            }
        }
        return sum;
    }

    Part fall(int f) {
        return test().minus(without(f).test());
    }

    Part lie(int f) {
        return Part.of(flows.get(f).reading).minus(without(f).value(f));
    }

    List<Integer> rank() {
        List<Integer> order = new ArrayList<>();
        List<Part> falls = new ArrayList<>();
        for (int f = 0; f < flows.size(); f++) {
            falls.add(spare(f) ? fall(f) : null);
            if (spare(f)) {
                order.add(f);
            }
        }
        // The sort keeps the order of like ones.
        order.sort((a, b) -> falls.get(b).compareTo(falls.get(a)));
        return order;
    }

    boolean alike(int e, int f) {
        if (!isFlow(e) || !isFlow(f) || e == f || !spare(e) || !spare(f)) {
            return false;
        }
        for (List<Integer> r : without(e, f).rounds(e)) {
            if (r.contains(f)) {
                return true;
            }
        }
        return false;
    }

    int least(boolean surely, int what) {
        int best = -1;
        int bestPrice = 0;
        for (int set = 0; set < 1 << flows.size(); set++) {
            int price = 0;
            Model m = copy();
            boolean fits = true;
            for (int f = 0; f < flows.size(); f++) {
                if ((set >> f & 1) == 1) {
                    fits &= !isRead(f);
                    m.flows.get(f).read = true;
                    price += flows.get(f).price;
                }
            }
            if (fits && (best < 0 || price < bestPrice) && m.allSeen() && (!surely || m.surelySeen())) {
                best = set;
                bestPrice = price;
            }
        }
        return best < 0 ? -1 : what == 0 ? bestPrice : best;
    }

    private boolean surelySeen() {
        for (int f = 0; f < flows.size(); f++) {
            if (isRead(f) && !without(f).allSeen()) {
                return false;
            }
        }
        return true;
    }

    int look(int what) {
        int n = 0;
        switch (what) {
            case 0:
                return knots;
            case 1:
                return flows.size();
            case 3:
                return heapCount();
            case 6:
                return unbalanced();
            case 2:
            case 4:
            case 5:
                for (int f = 0; f < flows.size(); f++) {
                    boolean counts = what == 2 ? isRead(f) : what == 4 ? seen(f) : spare(f);
                    n += counts ? 1 : 0;
                }
                return n;
            default:
                return -1;
        }
    }

    private int unbalanced() {
        int n = 0;
        for (int k = 0; k < knots; k++) {
            int to = 0;
            int from = 0;
            boolean all = true;
            for (Flow f : flows) {
                all &= f.read || f.from != k && f.to != k;
                to += f.to == k ? f.reading : 0;
                from += f.from == k ? f.reading : 0;
            }
            n += all && to != from ? 1 : 0;
        }
        return n;
    }
}
