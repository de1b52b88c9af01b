import java.util.ArrayDeque;
import java.util.Deque;
import java.util.List;
import java.util.Random;

/** Long runs of calls by chance (always the same ones), each answer beside that of the model. */
public final class ModelTest {
    private static final int RUNS = 240;
    private static final int CALLS = 512;
    private static final int MOST_UNDOS = 8;

    private final Due due;
    private final Random chance;
    private final FlowMeters x = new FlowMeters();
    private final Deque<Model> past = new ArrayDeque<>();
    private Model m = new Model();
    /** How many calls the object has had: its 512th is the last one that must be right. */
    private int calls = 0;

    private ModelTest(Due due, long seed) {
        this.due = due;
        this.chance = new Random(seed);
    }

    public static void main(String[] args) {
        Due due = new Due("ModelTest");
        for (int run = 0; run < RUNS && !due.hasWrong(); run++) {
            new ModelTest(due, run).go(run);
        }
        due.end();
    }

    /** Beside each call, so that it counts them all. */
    private void check(String call, long got, long want) {
        calls++;
        due.is(call, got, want);
    }

    private void check(String call, boolean got, boolean want) {
        check(call, got ? 1 : 0, want ? 1 : 0);
    }

    private void go(int run) {
        if (run % 2 == 0) {
            build();
        }
        // A round may make several calls of undo(), so the last ones only ask.
        while (calls < CALLS) {
            if (calls < CALLS - MOST_UNDOS && chance.nextInt(run % 2 == 0 ? 12 : 4) == 0) {
                alter();
            } else {
                ask();
            }
        }
    }

    /** Works that are full, with meters that are far off: the numbers get large. */
    private void build() {
        int k = 2 + chance.nextInt(5);
        callWorks(k);
        int n = 4 + chance.nextInt(7);
        for (int f = 0; f < n; f++) {
            int a = chance.nextInt(k);
            callFlow(a, (a + 1 + chance.nextInt(k - 1)) % k);
            callMiss(f, chance.nextInt(3) == 0 ? 4 : 1 + chance.nextInt(4));
            callPrice(f, chance.nextInt(3) == 0 ? chance.nextInt(4) : chance.nextInt(100));
            if (chance.nextInt(5) != 0) {
                callRead(f, chance.nextInt(3) == 0 ? (chance.nextBoolean() ? 2000 : -2000)
                        : chance.nextInt(4001) - 2000);
            }
        }
    }

    private int anyFlow() {
        return chance.nextInt(12) == 0 ? wild() : chance.nextInt(Math.max(1, m.flows.size() + 1));
    }

    private int anyKnot() {
        return chance.nextInt(12) == 0 ? wild() : chance.nextInt(m.knots);
    }

    private int anyPart() {
        return chance.nextInt(12) == 0 ? wild() : chance.nextInt(2);
    }

    private int wild() {
        int[] some = {-1, -2, 2, 6, 7, 8, 10, 11, 16, 31, 32, 33, 64, Integer.MAX_VALUE, Integer.MIN_VALUE};
        return some[chance.nextInt(some.length)];
    }

    private void alter() {
        switch (chance.nextInt(16)) {
            case 0:
                if (chance.nextInt(6) == 0) {
                    callWorks(chance.nextInt(9));
                }
                break;
            case 1:
            case 2:
            case 3:
                callFlow(anyKnot(), anyKnot());
                break;
            case 4:
            case 5:
            case 6:
                callRead(anyFlow(), chance.nextInt(10) == 0 ? 1998 + chance.nextInt(5)
                        : chance.nextInt(10) == 0 ? -1998 - chance.nextInt(5) : chance.nextInt(40));
                break;
            case 7:
            case 8:
                callUnread(anyFlow());
                break;
            case 9:
                callMiss(anyFlow(), chance.nextInt(6));
                break;
            case 10:
                callPrice(anyFlow(), chance.nextInt(3) == 0 ? chance.nextInt(103) - 1 : chance.nextInt(4));
                break;
            case 11:
            case 12:
                callSheet();
                break;
            case 13:
                callLose(anyFlow());
                break;
            case 14:
                callHour(chance.nextInt(8) == 0 ? wild() : chance.nextInt(17));
                break;
            default:
                for (int n = chance.nextInt(chance.nextInt(4) == 0 ? MOST_UNDOS : 3); n >= 0; n--) {
                    callUndo();
                }
        }
    }

    private void keep() {
        past.addLast(m.copy());
        if (past.size() > 6) {
            past.removeFirst();
        }
    }

    private void callWorks(int k) {
        boolean can = k >= 2 && k <= 6;
        check("works(" + k + ")", x.works(k), can);
        if (can) {
            keep();
            m = new Model();
            m.knots = k;
        }
    }

    private void callFlow(int a, int b) {
        boolean can = a >= 0 && a < m.knots && b >= 0 && b < m.knots && a != b && m.flows.size() < 10;
        check("flow(" + a + ", " + b + ")", x.flow(a, b), can ? m.flows.size() : -1);
        if (can) {
            keep();
            Model.Flow f = new Model.Flow();
            f.from = a;
            f.to = b;
            m.flows.add(f);
        }
    }

    private void callRead(int f, int v) {
        boolean can = m.isFlow(f) && v >= -2000 && v <= 2000;
        check("read(" + f + ", " + v + ")", x.read(f, v), can);
        if (can) {
            keep();
            m.flows.get(f).read = true;
            m.flows.get(f).reading = v;
        }
    }

    private void callUnread(int f) {
        boolean can = m.isFlow(f) && m.isRead(f);
        check("unread(" + f + ")", x.unread(f), can);
        if (can) {
            keep();
            m = m.without(f);
        }
    }

    private void callMiss(int f, int v) {
        boolean can = m.isFlow(f) && v >= 1 && v <= 4;
        check("miss(" + f + ", " + v + ")", x.miss(f, v), can);
        if (can) {
            keep();
            m.flows.get(f).miss = v;
        }
    }

    private void callPrice(int f, int v) {
        boolean can = m.isFlow(f) && v >= 0 && v <= 99;
        check("price(" + f + ", " + v + ")", x.price(f, v), can);
        if (can) {
            keep();
            m.flows.get(f).price = v;
        }
    }

    private void callSheet() {
        int f = anyFlow();
        int kind = chance.nextInt(12) == 0 ? wild() : chance.nextInt(5);
        int n = chance.nextInt(12) == 0 ? wild() : chance.nextInt(18);
        int[] words = new int[4];
        for (int i = 0; i < 16; i++) {
            int some = chance.nextInt(4) == 0 ? -128 : chance.nextInt(256) - 128;
            words[i / 4] = words[i / 4] << 8 | some & 255;
        }
        boolean can = m.isFlow(f) && kind >= 0 && kind <= 3 && n >= 0 && n <= 16;
        check("sheet(" + f + ", " + kind + ", " + n + ", ..)",
                x.sheet(f, kind, n, words[0], words[1], words[2], words[3]), can ? n : -1);
        if (can) {
            keep();
            java.nio.ByteBuffer bytes = java.nio.ByteBuffer.allocate(16);
            for (int w : words) {
                bytes.putInt(w);
            }
            m.flows.get(f).kind = kind;
            m.flows.get(f).sheet = new Integer[n];
            for (int i = 0; i < n; i++) {
                int b = bytes.get(i);
                m.flows.get(f).sheet[i] = kind == 3 && b == -128 ? null : Integer.valueOf(b * 10);
            }
        }
    }

    private void callLose(int f) {
        boolean can = m.isFlow(f) && m.flows.get(f).kind >= 0;
        check("lose(" + f + ")", x.lose(f), can);
        if (can) {
            keep();
            m.flows.get(f).kind = -1;
            m.flows.get(f).sheet = new Integer[0];
        }
    }

    private void callHour(int h) {
        int want = -1;
        if (h >= 0 && h <= 15) {
            keep();
            want = 0;
            for (Model.Flow f : m.flows) {
                Integer number = h < f.sheet.length ? f.sheet[h] : null;
                f.read = number != null;
                f.reading = number == null ? 0 : number;
                want += f.read ? 1 : 0;
            }
        }
        check("hour(" + h + ")", x.hour(h), want);
    }

    private void callUndo() {
        boolean can = !past.isEmpty();
        check("undo()", x.undo(), can);
        if (can) {
            m = past.removeLast();
        }
    }

    private void ask() {
        int f = anyFlow();
        int what = anyPart();
        boolean part = what == 0 || what == 1;
        boolean is = m.isFlow(f);
        switch (chance.nextInt(16)) {
            case 0:
                askLook(chance.nextInt(10) == 0 ? wild() : chance.nextInt(7));
                break;
            case 1:
                askOf(f, chance.nextInt(10) == 0 ? wild() : chance.nextInt(8));
                break;
            case 2:
                askHeap(anyKnot());
                break;
            case 3:
                check("seen(" + f + ")", x.seen(f), is ? m.seen(f) ? 1 : 0 : -1);
                break;
            case 4:
            case 5:
                check("value(" + f + ", " + what + ")", x.value(f, what),
                        is && part && m.seen(f) ? m.value(f).tell(what) : -1);
                break;
            case 6:
                check("change(" + f + ", " + what + ")", x.change(f, what),
                        is && part && m.isRead(f) ? m.change(f).tell(what) : -1);
                break;
            case 7:
                askForce(anyKnot(), what);
                break;
            case 8:
                check("test(" + what + ")", x.test(what), part ? m.test().tell(what) : -1);
                break;
            case 9:
                askRound(f, chance.nextInt(10) == 0 ? wild() : chance.nextInt(7));
                break;
            case 10:
                check("spare(" + f + ")", x.spare(f), is ? m.spare(f) ? 1 : 0 : -1);
                break;
            case 11:
                check("fall(" + f + ", " + what + ")", x.fall(f, what),
                        is && part && m.spare(f) ? m.fall(f).tell(what) : -1);
                break;
            case 12:
                check("lie(" + f + ", " + what + ")", x.lie(f, what),
                        is && part && m.spare(f) ? m.lie(f).tell(what) : -1);
                break;
            case 13:
                askRank(anyFlow());
                break;
            case 14:
                askAlike(f, anyFlow());
                break;
            default:
                askLeast(chance.nextBoolean(), what);
        }
    }

    private void askLook(int what) {
        check("look(" + what + ")", x.look(what), m.look(what));
    }

    private void askOf(int f, int what) {
        int want = -1;
        if (m.isFlow(f) && what >= 0 && what <= 7) {
            Model.Flow flow = m.flows.get(f);
            want = new int[] {flow.from, flow.to, flow.read ? 1 : 0, flow.reading,
                flow.miss, flow.price, flow.kind, flow.sheet.length}[what];
        }
        check("of(" + f + ", " + what + ")", x.of(f, what), want);
    }

    private void askHeap(int k) {
        check("heap(" + k + ")", x.heap(k), k >= 0 && k < m.knots ? m.heaps()[k] : -1);
    }

    private void askForce(int k, int what) {
        boolean can = k >= 0 && k < m.knots && (what == 0 || what == 1);
        check("force(" + k + ", " + what + ")", x.force(k, what), can ? m.forces()[k].tell(what) : -1);
    }

    private void askRound(int f, int i) {
        List<Integer> round = m.isFlow(f) ? m.round(f) : null;
        boolean can = round != null && i >= 0 && i < round.size();
        check("round(" + f + ", " + i + ")", x.round(f, i), can ? round.get(i) : -1);
    }

    private void askRank(int i) {
        List<Integer> rank = m.rank();
        check("rank(" + i + ")", x.rank(i), i >= 0 && i < rank.size() ? rank.get(i) : -1);
    }

    private void askAlike(int e, int f) {
        check("alike(" + e + ", " + f + ")", x.alike(e, f), m.alike(e, f));
    }

    private void askLeast(boolean surely, int what) {
        check("least(" + surely + ", " + what + ")", x.least(surely, what),
                what == 0 || what == 1 ? m.least(surely, what) : -1);
    }
}
