/** For each promise of the document: ordinary inputs, the edges that it names, wrong inputs. */
public final class PromisesTest {
    private static final int MIN = Integer.MIN_VALUE;
    private static final int MAX = Integer.MAX_VALUE;
    private static final int NONE = FlowMeters.NONE;
    private static final Due DUE = new Due("PromisesTest");

    private PromisesTest() {
    }

    public static void main(String[] args) {
        DUE.is("NONE", NONE, -1);
        newObject();
        works();
        flow();
        read();
        unread();
        miss();
        price();
        sheet();
        lose();
        hour();
        undoOfEach();
        undoOfSix();
        look();
        of();
        heap();
        seen();
        valueOfRead();
        valueOfUnread();
        change();
        force();
        test();
        round();
        spare();
        fall();
        lie();
        rank();
        alike();
        least();
        leastSurely();
        largeNumbers();
        DUE.end();
    }

    private static void is(String call, long got, long want) {
        DUE.is(call, got, want);
    }

    private static void yes(String call, boolean got) {
        DUE.is(call, got, true);
    }

    private static void no(String call, boolean got) {
        DUE.is(call, got, false);
    }

    /** Flows as pairs of knots: 1, 2 is from knot 1 to knot 2. */
    private static FlowMeters make(int knots, int... ends) {
        FlowMeters x = new FlowMeters();
        yes("works(" + knots + ")", x.works(knots));
        for (int i = 0; i < ends.length; i += 2) {
            is("flow(" + ends[i] + ", " + ends[i + 1] + ")", x.flow(ends[i], ends[i + 1]), i / 2);
        }
        return x;
    }

    private static void readAll(FlowMeters x, int... readings) {
        for (int f = 0; f < readings.length; f++) {
            yes("read(" + f + ", " + readings[f] + ")", x.read(f, readings[f]));
        }
    }

    /** Flows 0 to 1, 1 to 2, 2 to 0 that tell 10, 13, 10. */
    private static FlowMeters triangle() {
        FlowMeters x = make(3, 0, 1, 1, 2, 2, 0);
        readAll(x, 10, 13, 10);
        return x;
    }

    private static void isPart(String call, long above, long below, long wantAbove, long wantBelow) {
        is(call + " above", above, wantAbove);
        is(call + " below", below, wantBelow);
    }

    private static void valueIs(FlowMeters x, int f, long above, long below) {
        isPart("value of " + f, x.value(f, 0), x.value(f, 1), above, below);
    }

    private static void changeIs(FlowMeters x, int f, long above, long below) {
        isPart("change of " + f, x.change(f, 0), x.change(f, 1), above, below);
    }

    private static void forceIs(FlowMeters x, int k, long above, long below) {
        isPart("force of " + k, x.force(k, 0), x.force(k, 1), above, below);
    }

    private static void testIs(FlowMeters x, long above, long below) {
        isPart("test", x.test(0), x.test(1), above, below);
    }

    private static void fallIs(FlowMeters x, int f, long above, long below) {
        isPart("fall of " + f, x.fall(f, 0), x.fall(f, 1), above, below);
    }

    private static void lieIs(FlowMeters x, int f, long above, long below) {
        isPart("lie of " + f, x.lie(f, 0), x.lie(f, 1), above, below);
    }

    private static void roundIs(FlowMeters x, int f, int... round) {
        for (int i = 0; i < round.length; i++) {
            is("round(" + f + ", " + i + ")", x.round(f, i), round[i]);
        }
        for (int i : new int[] {round.length, round.length + 1, 7, MAX, -1, MIN}) {
            is("round(" + f + ", " + i + ")", x.round(f, i), NONE);
        }
    }

    private static void leastIs(FlowMeters x, boolean surely, int price, int set) {
        is("least(" + surely + ", 0)", x.least(surely, 0), price);
        is("least(" + surely + ", 1)", x.least(surely, 1), set);
    }

    private static void newObject() {
        FlowMeters x = new FlowMeters();
        is("new: knots", x.look(0), 2);
        is("new: flows", x.look(1), 0);
        is("new: read", x.look(2), 0);
        is("new: heaps", x.look(3), 2);
        testIs(x, 0, 1);
        forceIs(x, 0, 0, 1);
        forceIs(x, 1, 0, 1);
        leastIs(x, false, 0, 0);
        leastIs(x, true, 0, 0);
        is("new: of(0, 0)", x.of(0, 0), NONE);
        is("new: rank(0)", x.rank(0), NONE);
        no("new: undo()", x.undo());
    }

    private static void works() {
        FlowMeters x = triangle();
        for (int k : new int[] {1, 0, -1, 7, MIN, MAX}) {
            no("works(" + k + ")", x.works(k));
            is("works: knots stay", x.look(0), 3);
            is("works: flows stay", x.look(1), 3);
        }
        for (int k = 2; k <= 6; k++) {
            yes("works(" + k + ")", x.works(k));
            is("works: knots", x.look(0), k);
            is("works: flows", x.look(1), 0);
            is("works: read", x.look(2), 0);
            is("works: heaps", x.look(3), k);
            is("works: last knot", x.heap(k - 1), k - 1);
            is("works: no more knots", x.heap(k), NONE);
        }
    }

    private static void flow() {
        FlowMeters x = new FlowMeters();
        is("flow(1, 2) of two knots", x.flow(1, 2), NONE);
        x.works(3);
        int[][] wrong = {{0, 0}, {2, 2}, {3, 0}, {0, 3}, {-1, 0}, {0, -1}, {MIN, 1}, {1, MAX}};
        for (int[] w : wrong) {
            is("flow(" + w[0] + ", " + w[1] + ")", x.flow(w[0], w[1]), NONE);
        }
        is("flow: none yet", x.look(1), 0);
        for (int f = 0; f < 10; f++) {
            is("flow(" + f % 3 + ", ..)", x.flow(f % 3, (f + 1) % 3), f);
            is("flow: from", x.of(f, 0), f % 3);
            is("flow: to", x.of(f, 1), (f + 1) % 3);
        }
        is("an eleventh flow", x.flow(0, 1), NONE);
        is("flow: ten", x.look(1), 10);
        newFlowIsBare();
    }

    private static void newFlowIsBare() {
        FlowMeters x = make(2, 0, 1);
        x.read(0, 5);
        x.miss(0, 3);
        x.price(0, 9);
        x.sheet(0, 2, 4, -1, 0, 0, 0);
        x.works(2);
        is("flow behind works()", x.flow(1, 0), 0);
        int[] bare = {1, 0, 0, 0, 1, 1, NONE, 0};
        for (int what = 0; what < bare.length; what++) {
            is("a new flow: what " + what, x.of(0, what), bare[what]);
        }
        is("a new flow has no sheet: hour(0)", x.hour(0), 0);
    }

    private static void read() {
        FlowMeters x = make(2, 0, 1);
        yes("read(0, -2000)", x.read(0, -2000));
        is("read: reading", x.of(0, 3), -2000);
        is("read: is read", x.of(0, 2), 1);
        yes("read(0, 2000)", x.read(0, 2000));
        int[][] wrong = {{0, 2001}, {0, -2001}, {0, MIN}, {0, MAX}, {1, 0}, {-1, 0}, {MIN, 0}, {MAX, 0}};
        for (int[] w : wrong) {
            no("read(" + w[0] + ", " + w[1] + ")", x.read(w[0], w[1]));
        }
        is("read: nothing done", x.of(0, 3), 2000);
        yes("read: wrong ones are not kept", x.undo());
        is("read: taken back", x.of(0, 3), -2000);
    }

    private static void unread() {
        FlowMeters x = make(2, 0, 1, 0, 1);
        no("unread(0) of an unread one", x.unread(0));
        x.read(0, 7);
        x.read(1, 8);
        yes("unread(0)", x.unread(0));
        is("unread: is read", x.of(0, 2), 0);
        is("unread: reading", x.of(0, 3), 0);
        is("unread: the other one", x.of(1, 3), 8);
        for (int f : new int[] {0, 2, -1, MIN, MAX}) {
            no("unread(" + f + ")", x.unread(f));
        }
        yes("unread: false is not kept", x.undo());
        is("unread: taken back", x.of(0, 3), 7);
    }

    private static void miss() {
        FlowMeters x = make(2, 0, 1);
        is("miss at first", x.of(0, 4), 1);
        for (int v = 1; v <= 4; v++) {
            yes("miss(0, " + v + ")", x.miss(0, v));
            is("miss", x.of(0, 4), v);
        }
        int[][] wrong = {{0, 0}, {0, 5}, {0, MIN}, {0, MAX}, {1, 2}, {-1, 2}, {MIN, 2}, {MAX, 2}};
        for (int[] w : wrong) {
            no("miss(" + w[0] + ", " + w[1] + ")", x.miss(w[0], w[1]));
            is("miss: nothing done", x.of(0, 4), 4);
        }
    }

    private static void price() {
        FlowMeters x = make(2, 0, 1);
        is("price at first", x.of(0, 5), 1);
        for (int v : new int[] {0, 50, 99}) {
            yes("price(0, " + v + ")", x.price(0, v));
            is("price", x.of(0, 5), v);
        }
        int[][] wrong = {{0, -1}, {0, 100}, {0, MIN}, {0, MAX}, {1, 2}, {-1, 2}, {MIN, 2}, {MAX, 2}};
        for (int[] w : wrong) {
            no("price(" + w[0] + ", " + w[1] + ")", x.price(w[0], w[1]));
            is("price: nothing done", x.of(0, 5), 99);
        }
    }

    private static void sheet() {
        FlowMeters x = make(2, 0, 1);
        // Bytes 1 .. 12, then 127, -1, -127, -128.
        is("sheet(..)", x.sheet(0, 0, 16, 0x01020304, 0x05060708, 0x090A0B0C, 0x7FFF8180), 16);
        int[] numbers = {1, 2, 3, 4, 5, 6, 7, 8, 9, 10, 11, 12, 127, -1, -127, -128};
        for (int kind = 0; kind <= 3; kind++) {
            is("sheet: kinds", x.sheet(0, kind, 16, 0x01020304, 0x05060708, 0x090A0B0C, 0x7FFF8180), 16);
            is("sheet: its kind", x.of(0, 6), kind);
            is("sheet: its numbers", x.of(0, 7), 16);
            for (int h = 0; h < 16; h++) {
                boolean number = kind != 3 || h != 15;
                is("sheet: hour(" + h + ")", x.hour(h), number ? 1 : 0);
                is("sheet: reading at " + h, x.of(0, 3), number ? numbers[h] * 10 : 0);
            }
        }
        int[][] wrong = {{1, 0, 3}, {-1, 0, 3}, {MAX, 0, 3}, {MIN, 0, 3}, {0, -1, 3}, {0, 4, 3},
            {0, MAX, 3}, {0, MIN, 3}, {0, 0, -1}, {0, 0, 17}, {0, 0, MAX}, {0, 0, MIN}};
        for (int[] w : wrong) {
            is("sheet of wrong inputs", x.sheet(w[0], w[1], w[2], 0, 0, 0, 0), NONE);
            is("sheet: kind stays", x.of(0, 6), 3);
            is("sheet: numbers stay", x.of(0, 7), 16);
        }
        is("sheet: bytes stay", x.hour(0), 1);
        is("sheet: reading stays", x.of(0, 3), 10);
        is("sheet without numbers", x.sheet(0, 1, 0, -1, -1, -1, -1), 0);
        is("sheet without numbers: kind", x.of(0, 6), 1);
        is("sheet without numbers: how many", x.of(0, 7), 0);
        is("a sheet reads nothing by itself", x.of(0, 3), 10);
        is("sheet without numbers: hour(0)", x.hour(0), 0);
    }

    private static void lose() {
        FlowMeters x = make(2, 0, 1, 1, 0);
        no("lose(0) without a sheet", x.lose(0));
        x.sheet(0, 1, 0, 0, 0, 0, 0);
        x.sheet(1, 2, 3, 0x05050505, 0, 0, 0);
        x.hour(0);
        yes("lose(0) of a sheet without numbers", x.lose(0));
        yes("lose(1)", x.lose(1));
        is("lose: kind", x.of(1, 6), NONE);
        is("lose: numbers", x.of(1, 7), 0);
        is("lose: the reading stays", x.of(1, 3), 50);
        for (int f : new int[] {0, 1, 2, -1, MIN, MAX}) {
            no("lose(" + f + ")", x.lose(f));
        }
        is("lose: hour(0)", x.hour(0), 0);
    }

    private static void hour() {
        FlowMeters x = make(2, 0, 1, 1, 0, 0, 1);
        x.sheet(0, 0, 16, 0, 0, 0, 9);
        x.sheet(1, 3, 2, 0x80010000, 0, 0, 0);
        x.read(2, 44);
        for (int h : new int[] {-1, 16, MIN, MAX}) {
            is("hour(" + h + ")", x.hour(h), NONE);
            is("hour: nothing done", x.of(2, 3), 44);
        }
        is("hour(0): one is no number, one has no sheet", x.hour(0), 1);
        is("hour(0): a number 0 is read", x.of(0, 2), 1);
        is("hour(0): no number", x.of(1, 2), 0);
        is("hour(0): no sheet", x.of(2, 2), 0);
        is("hour(1)", x.hour(1), 2);
        is("hour(1): reading", x.of(1, 3), 10);
        is("hour(2): one ends ahead", x.hour(2), 1);
        is("hour(2): unread", x.of(1, 2), 0);
        is("hour(2): reading", x.of(1, 3), 0);
        is("hour(15)", x.hour(15), 1);
        is("hour(15): reading", x.of(0, 3), 90);
    }

    private static void undoOfEach() {
        FlowMeters x = make(3, 0, 1);
        x.read(0, 3);
        x.sheet(0, 3, 1, 0x07000000, 0, 0, 0);
        int[] was = stateOf(x);
        for (int call = 0; call < 9; call++) {
            yes("a call to undo", alter(x, call));
            yes("undo()", x.undo());
            int[] is = stateOf(x);
            for (int i = 0; i < was.length; i++) {
                is("undo of call " + call + ": " + i, is[i], was[i]);
            }
        }
    }

    /** The calls that are kept, one by one. */
    private static boolean alter(FlowMeters x, int call) {
        switch (call) {
            case 0:
                return x.works(5);
            case 1:
                return x.flow(1, 2) == 1;
            case 2:
                return x.read(0, 4);
            case 3:
                return x.unread(0);
            case 4:
                return x.miss(0, 2);
            case 5:
                return x.price(0, 8);
            case 6:
                return x.sheet(0, 3, 2, 0x08080808, 0, 0, 0) == 2;
            case 7:
                return x.lose(0);
            default:
                return x.hour(0) == 1;
        }
    }

    private static int[] stateOf(FlowMeters x) {
        int[] state = new int[12];
        state[0] = x.look(0);
        state[1] = x.look(1);
        for (int what = 0; what < 8; what++) {
            state[2 + what] = x.of(0, what);
        }
        state[10] = x.hour(0);
        state[11] = x.of(0, 3);
        x.undo();
        return state;
    }

    private static void undoOfSix() {
        FlowMeters x = make(2, 0, 1);
        for (int v = 1; v <= 9; v++) {
            x.read(0, v);
        }
        for (int v = 8; v >= 3; v--) {
            yes("undo() of six", x.undo());
            is("undo: reading", x.of(0, 3), v);
        }
        no("undo() of a seventh", x.undo());
        is("undo: nothing done", x.of(0, 3), 3);
        x.read(0, 3);
        yes("undo of a call that changed nothing", x.undo());
        is("undo: reading", x.of(0, 3), 3);
        no("undo is not kept itself", x.undo());
        yes("read", x.read(0, 20));
        yes("read", x.read(0, 21));
        yes("undo", x.undo());
        yes("read", x.read(0, 22));
        yes("undo", x.undo());
        is("undo: behind undo", x.of(0, 3), 20);
        yes("undo", x.undo());
        is("undo: the first", x.of(0, 3), 3);
        no("undo: none is left", x.undo());
        is("hour(9) reads none, but is done", x.hour(9), 0);
        yes("undo of an hour", x.undo());
        is("undo: the hour", x.of(0, 3), 3);
    }

    private static void look() {
        FlowMeters x = triangle();
        x.flow(0, 1);
        int[] due = {3, 4, 3, 2, 4, 2, 1};
        for (int what = 0; what < due.length; what++) {
            is("look(" + what + ")", x.look(what), due[what]);
        }
        for (int what : new int[] {-1, 7, MIN, MAX}) {
            is("look(" + what + ")", x.look(what), NONE);
        }
        x.flow(1, 0);
        is("look(4) with a round", x.look(4), 3);
        FlowMeters y = make(4, 0, 1, 1, 0);
        readAll(y, 6, 6);
        is("look(6) in balance, knots without flows too", y.look(6), 0);
        y.read(1, 7);
        is("look(6) the outside too", y.look(6), 2);
        FlowMeters z = make(2, 0, 1, 0, 1);
        readAll(z, 6, -6);
        is("look(6) of two that make up for one another", z.look(6), 0);
    }

    private static void of() {
        FlowMeters x = make(5, 0, 1, 4, 2);
        x.read(1, -77);
        x.miss(1, 3);
        x.price(1, 42);
        x.sheet(1, 2, 11, 0, 0, 0, 0);
        int[] due = {4, 2, 1, -77, 3, 42, 2, 11};
        for (int what = 0; what < due.length; what++) {
            is("of(1, " + what + ")", x.of(1, what), due[what]);
            is("of(2, " + what + ")", x.of(2, what), NONE);
            is("of(-1, " + what + ")", x.of(-1, what), NONE);
        }
        for (int what : new int[] {-1, 8, MIN, MAX}) {
            is("of(1, " + what + ")", x.of(1, what), NONE);
        }
        is("of(MAX, 0)", x.of(MAX, 0), NONE);
        is("of(MIN, 0)", x.of(MIN, 0), NONE);
    }

    private static void heap() {
        FlowMeters x = make(6, 5, 3, 3, 1, 4, 2, 2, 5);
        is("heap(5)", x.heap(5), 1);
        is("heap(4)", x.heap(4), 1);
        is("heap(0)", x.heap(0), 0);
        x.read(3, 0);
        is("heap(5) parted", x.heap(5), 1);
        is("heap(4) parted", x.heap(4), 2);
        is("heap(2) parted", x.heap(2), 2);
        for (int k : new int[] {-1, 6, MIN, MAX}) {
            is("heap(" + k + ")", x.heap(k), NONE);
        }
    }

    private static void seen() {
        FlowMeters x = make(4, 0, 1, 1, 2, 2, 0, 2, 3);
        int[] due = {0, 0, 0, 1};
        for (int f = 0; f < due.length; f++) {
            is("seen(" + f + ")", x.seen(f), due[f]);
        }
        x.read(1, 4);
        for (int f = 0; f < due.length; f++) {
            is("seen(" + f + ") with a meter", x.seen(f), 1);
        }
        for (int f : new int[] {4, -1, MIN, MAX}) {
            is("seen(" + f + ")", x.seen(f), NONE);
        }
    }

    private static void valueOfRead() {
        FlowMeters x = triangle();
        valueIs(x, 0, 11, 1);
        valueIs(x, 1, 11, 1);
        x.miss(1, 4);
        valueIs(x, 1, 31, 3);
        for (int what : new int[] {-1, 2, MIN, MAX}) {
            is("value(0, " + what + ")", x.value(0, what), NONE);
        }
        for (int f : new int[] {3, -1, MIN, MAX}) {
            is("value(" + f + ", 0)", x.value(f, 0), NONE);
        }
        FlowMeters y = make(2, 0, 1, 0, 1);
        readAll(y, 3, 4);
        valueIs(y, 0, -1, 2);
        valueIs(y, 1, 1, 2);
        // A meter within a heap can't be doubted by the others.
        y.flow(1, 0);
        valueIs(y, 0, 3, 1);
        valueIs(y, 2, 7, 1);
    }

    private static void valueOfUnread() {
        FlowMeters x = make(3, 0, 1, 2, 1, 2, 0);
        x.read(0, 5);
        valueIs(x, 1, -5, 1);
        valueIs(x, 2, 5, 1);
        x.flow(0, 2);
        is("value of one that is not seen", x.value(2, 0), NONE);
        is("value of one that is not seen", x.value(3, 1), NONE);
        valueIs(x, 1, -5, 1);
        FlowMeters y = make(3, 0, 1, 1, 2, 0, 1, 2, 0);
        readAll(y, 3, 7, 4);
        y.unread(1);
        y.miss(2, 2);
        valueIs(y, 1, 7, 1);
        y.flow(1, 0);
        y.read(4, 2);
        y.read(3, 1);
        // The meters lack 4 in all at knot 1; misses 1, 2, 1, 1 share it: 4/5 for each miss.
        valueIs(y, 0, 11, 5);
        valueIs(y, 2, 12, 5);
        valueIs(y, 1, 9, 5);
    }

    private static void change() {
        FlowMeters x = triangle();
        changeIs(x, 0, 1, 1);
        changeIs(x, 1, -2, 1);
        x.miss(1, 4);
        changeIs(x, 0, 1, 3);
        changeIs(x, 1, -8, 3);
        x.unread(2);
        is("change of an unread one", x.change(2, 0), NONE);
        is("change of an unread one", x.change(2, 1), NONE);
        for (int what : new int[] {-1, 2, MIN, MAX}) {
            is("change(0, " + what + ")", x.change(0, what), NONE);
        }
        for (int f : new int[] {3, -1, MIN, MAX}) {
            is("change(" + f + ", 0)", x.change(f, 0), NONE);
        }
        x.unread(1);
        changeIs(x, 0, 0, 1);
    }

    private static void force() {
        FlowMeters x = make(5, 0, 1, 1, 0, 2, 3, 3, 2);
        readAll(x, 10, 4, 5, 8);
        x.miss(2, 2);
        forceIs(x, 0, 0, 1);
        forceIs(x, 1, -3, 1);
        // Another piece has a heap of force 0 of its own.
        forceIs(x, 2, 0, 1);
        forceIs(x, 3, 1, 1);
        forceIs(x, 4, 0, 1);
        x.miss(3, 4);
        forceIs(x, 3, 1, 2);
        for (int k : new int[] {-1, 5, MIN, MAX}) {
            is("force(" + k + ", 0)", x.force(k, 0), NONE);
        }
        for (int what : new int[] {-1, 2, MIN, MAX}) {
            is("force(0, " + what + ")", x.force(0, what), NONE);
        }
        FlowMeters y = make(4, 1, 2, 2, 1, 3, 0);
        readAll(y, 0, 6);
        // Knots 0 and 3 are a heap of their own piece; knots 1 and 2 hang together by meters.
        forceIs(y, 1, 0, 1);
        forceIs(y, 2, 3, 1);
        is("flow(3, 1)", y.flow(3, 1), 3);
        forceIs(y, 1, 0, 1);
        forceIs(y, 3, 0, 1);
        forceIs(y, 2, 3, 1);
    }

    private static void test() {
        testIs(triangle(), 6, 1);
        FlowMeters x = make(4, 0, 1, 1, 0, 2, 3, 3, 2);
        readAll(x, 10, 4, 5, 8);
        x.miss(2, 2);
        testIs(x, 21, 1);
        x.miss(3, 2);
        testIs(x, 81, 4);
        x.unread(0);
        testIs(x, 9, 4);
        x.unread(3);
        testIs(x, 0, 1);
        for (int what : new int[] {-1, 2, MIN, MAX}) {
            is("test(" + what + ")", x.test(what), NONE);
        }
    }

    private static void round() {
        roundIs(make(3, 0, 1, 2, 0, 1, 2), 0, 0, 2, 1);
        roundIs(make(3, 0, 1, 2, 0, 1, 2), 1, 1, 0, 2);
        roundIs(make(3, 0, 1, 0, 2, 1, 2), 1, 1, 2, 0);
        // The fewest flows go ahead of lesser numbers.
        roundIs(make(3, 0, 1, 1, 2, 2, 0, 1, 0), 0, 0, 3);
        // Of like many the first one by the numbers in the order of the round.
        roundIs(make(4, 0, 1, 1, 2, 3, 0, 2, 0, 1, 3), 0, 0, 1, 3);
        roundIs(make(4, 1, 0, 1, 2, 3, 0, 2, 0, 1, 3), 0, 0, 2, 4);
        roundIs(make(6, 0, 1, 1, 2, 2, 3, 3, 4, 4, 5, 5, 0), 3, 3, 4, 5, 0, 1, 2);
        FlowMeters x = make(3, 0, 1, 1, 0, 1, 2);
        is("round of a flow that is seen", x.round(2, 0), NONE);
        x.read(1, 0);
        is("round of a flow that is seen", x.round(0, 0), NONE);
        is("round of a read flow", x.round(1, 0), NONE);
        for (int f : new int[] {3, -1, MIN, MAX}) {
            is("round(" + f + ", 0)", x.round(f, 0), NONE);
        }
    }

    private static void spare() {
        FlowMeters x = make(3, 0, 1, 1, 2, 2, 0, 1, 0);
        is("spare of an unread one", x.spare(0), 0);
        readAll(x, 1, 2, 3);
        is("spare within a heap", x.spare(0), 0);
        is("spare(1)", x.spare(1), 1);
        is("spare(2)", x.spare(2), 1);
        is("spare(3)", x.spare(3), 0);
        x.read(3, 4);
        is("spare(0)", x.spare(0), 1);
        for (int f : new int[] {4, -1, MIN, MAX}) {
            is("spare(" + f + ")", x.spare(f), NONE);
        }
    }

    private static void fall() {
        FlowMeters x = triangle();
        fallIs(x, 0, 3, 2);
        fallIs(x, 1, 6, 1);
        fallIs(x, 2, 3, 2);
        x.read(1, 10);
        fallIs(x, 1, 0, 1);
        for (int what : new int[] {-1, 2, MIN, MAX}) {
            is("fall(0, " + what + ")", x.fall(0, what), NONE);
        }
        for (int f : new int[] {3, -1, MIN, MAX}) {
            is("fall(" + f + ", 0)", x.fall(f, 0), NONE);
        }
        x.flow(0, 1);
        is("fall of one that is not spare", x.fall(0, 0), NONE);
        is("fall of an unread one", x.fall(3, 1), NONE);
    }

    private static void lie() {
        FlowMeters x = triangle();
        lieIs(x, 0, -3, 2);
        lieIs(x, 1, 3, 1);
        lieIs(x, 2, -3, 2);
        for (int what : new int[] {-1, 2, MIN, MAX}) {
            is("lie(0, " + what + ")", x.lie(0, what), NONE);
        }
        for (int f : new int[] {3, -1, MIN, MAX}) {
            is("lie(" + f + ", 0)", x.lie(f, 0), NONE);
        }
        x.flow(0, 1);
        is("lie of one that is not spare", x.lie(0, 0), NONE);
        is("lie of an unread one", x.lie(3, 1), NONE);
        // A bridge: nothing can go over it, so all that it tells is a lie.
        FlowMeters y = make(2, 0, 1);
        y.read(0, 9);
        lieIs(y, 0, 9, 1);
        fallIs(y, 0, 81, 1);
        valueIs(y, 0, 0, 1);
    }

    private static void rank() {
        FlowMeters x = triangle();
        int[] due = {1, 0, 2, NONE};
        for (int i = 0; i < due.length; i++) {
            is("rank(" + i + ")", x.rank(i), due[i]);
        }
        for (int i : new int[] {-1, 10, 31, 32, MIN, MAX}) {
            is("rank(" + i + ")", x.rank(i), NONE);
        }
        FlowMeters y = make(4, 0, 1, 1, 0, 2, 3, 2, 0, 0, 2);
        readAll(y, 5, 5, 1);
        int[] dueY = {2, 0, 1, NONE};
        for (int i = 0; i < dueY.length; i++) {
            is("rank(" + i + ") of like ones", y.rank(i), dueY[i]);
        }
    }

    private static void alike() {
        FlowMeters x = make(4, 0, 1, 2, 3, 0, 2, 3, 1, 0, 1, 2, 1);
        x.read(2, 1);
        x.read(3, 2);
        x.read(4, 3);
        x.read(5, 4);
        yes("alike(2, 3): between the same heaps, turned", x.alike(2, 3));
        yes("alike(3, 2)", x.alike(3, 2));
        yes("alike(3, 5)", x.alike(3, 5));
        no("alike(2, 2)", x.alike(2, 2));
        no("alike(2, 4): 4 is not spare", x.alike(2, 4));
        no("alike(4, 2): 4 is not spare", x.alike(4, 2));
        no("alike(0, 1): unread", x.alike(0, 1));
        no("alike(2, 0): unread", x.alike(2, 0));
        for (int f : new int[] {6, -1, MIN, MAX}) {
            no("alike(2, " + f + ")", x.alike(2, f));
            no("alike(" + f + ", 2)", x.alike(f, 2));
            no("alike(" + f + ", " + f + ")", x.alike(f, f));
        }
        no("alike of three in a round", triangle().alike(0, 1));
        FlowMeters y = triangle();
        y.unread(2);
        yes("alike of two behind one another", y.alike(0, 1));
    }

    private static void least() {
        FlowMeters x = make(2, 0, 1, 1, 0, 0, 1);
        leastIs(x, false, 2, 3);
        x.price(0, 5);
        leastIs(x, false, 2, 6);
        x.price(0, 0);
        x.price(1, 0);
        x.price(2, 0);
        leastIs(x, false, 0, 3);
        for (int what : new int[] {-1, 2, MIN, MAX}) {
            is("least(false, " + what + ")", x.least(false, what), NONE);
            is("least(true, " + what + ")", x.least(true, what), NONE);
        }
        x.read(2, 1);
        x.price(1, 99);
        x.price(0, 99);
        x.price(2, 50);
        leastIs(x, false, 99, 1);
        x.read(0, 1);
        leastIs(x, false, 0, 0);
        // Two rounds that share flow 2: one flow of each, of like sums the least number.
        FlowMeters y = make(4, 0, 1, 1, 2, 2, 0, 2, 3, 3, 0);
        y.price(2, 3);
        leastIs(y, false, 2, 9);
        y.price(0, 2);
        y.price(1, 2);
        leastIs(y, false, 3, 9);
        y.price(0, 3);
        leastIs(y, false, 3, 10);
        y.price(2, 1);
        leastIs(y, false, 2, 12);
    }

    private static void leastSurely() {
        FlowMeters x = make(2, 0, 1, 1, 0, 0, 1);
        leastIs(x, true, 3, 7);
        x.read(0, 3);
        leastIs(x, true, 2, 6);
        leastIs(x, false, 1, 2);
        FlowMeters y = make(2, 0, 1);
        leastIs(y, true, 0, 0);
        y.read(0, 3);
        leastIs(y, true, 0, 0);
        FlowMeters z = make(3, 0, 1, 1, 2, 2, 0);
        // With one meter all is seen, but not without it; two of a round do.
        leastIs(z, false, 1, 1);
        leastIs(z, true, 2, 3);
        z.read(2, 5);
        leastIs(z, false, 0, 0);
        leastIs(z, true, 1, 1);
        z.price(0, 9);
        leastIs(z, true, 1, 2);
    }

    /** As many trees of meters as can be, with the greatest misses and readings. */
    private static void largeNumbers() {
        FlowMeters x = make(6, 0, 1, 1, 2, 2, 3, 3, 4, 4, 5, 5, 0, 0, 3, 1, 4, 2, 5, 0, 2);
        readAll(x, 2000, -1999, 1998, -2000, 1997, -2000, 2000, 1999, -1993, -2000);
        for (int f = 0; f < 10; f++) {
            x.miss(f, f % 2 == 0 ? 4 : 3);
        }
        Model m = new Model();
        m.knots = 6;
        for (int f = 0; f < 10; f++) {
            Model.Flow flow = new Model.Flow();
            flow.from = x.of(f, 0);
            flow.to = x.of(f, 1);
            flow.read = true;
            flow.reading = x.of(f, 3);
            flow.miss = x.of(f, 4);
            m.flows.add(flow);
        }
        testIs(x, m.test().tell(0), m.test().tell(1));
        for (int f = 0; f < 10; f++) {
            valueIs(x, f, m.value(f).tell(0), m.value(f).tell(1));
            fallIs(x, f, m.fall(f).tell(0), m.fall(f).tell(1));
            lieIs(x, f, m.lie(f).tell(0), m.lie(f).tell(1));
            is("rank(" + f + ") of large numbers", x.rank(f), m.rank().get(f));
        }
    }
}
