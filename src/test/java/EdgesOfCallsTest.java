/** Promises 1 to 11: the boundary cases of the calls that make, alter and take back. */
public final class EdgesOfCallsTest {
    private static final int MIN = Edges.MIN;
    private static final int MAX = Edges.MAX;
    private static final int NONE = Edges.NONE;
    /** What of() tells of a flow from 0 to 1 to which nothing was done. */
    private static final int[] BARE = {0, 1, 0, 0, 1, 1, NONE, 0};
    private static final int[] NO_FLOWS_OF_FOUR = Edges.outside(0, 3);

    private EdgesOfCallsTest() {
    }

    public static void main(String[] args) {
        Edges.runAll(EdgesOfCallsTest.class, 1, 11);
    }

    private static void is(String call, long got, long want) {
        Edges.is(call, got, want);
    }

    private static void yes(String call, boolean got) {
        Edges.yes(call, got);
    }

    private static void no(String call, boolean got) {
        Edges.no(call, got);
    }

    // Promise 1: a new object.

    static void promise01_twoKnots() {
        FlowMeters x = new FlowMeters();
        is("look(0)", x.look(0), 2);
        is("look(3): each knot is a heap alone", x.look(3), 2);
        is("heap(0)", x.heap(0), 0);
        is("heap(1)", x.heap(1), 1);
        is("heap(2)", x.heap(2), NONE);
        is("flow(0, 2)", x.flow(0, 2), NONE);
        is("flow(1, 0)", x.flow(1, 0), 0);
    }

    static void promise01_noFlows() {
        FlowMeters x = new FlowMeters();
        for (int what : new int[] {1, 2, 4, 5, 6}) {
            is("look(" + what + ")", x.look(what), 0);
        }
        for (int what = 0; what < 8; what++) {
            is("of(0, " + what + ")", x.of(0, what), NONE);
        }
        is("seen(0)", x.seen(0), NONE);
        is("spare(0)", x.spare(0), NONE);
        is("round(0, 0)", x.round(0, 0), NONE);
        is("rank(0)", x.rank(0), NONE);
        is("value(0, 0)", x.value(0, 0), NONE);
        is("change(0, 0)", x.change(0, 0), NONE);
        is("fall(0, 0)", x.fall(0, 0), NONE);
        is("lie(0, 0)", x.lie(0, 0), NONE);
        no("alike(0, 0)", x.alike(0, 0));
    }

    static void promise01_nothingToFit() {
        FlowMeters x = new FlowMeters();
        Edges.testIs(x, 0, 1);
        Edges.forceIs(x, 0, 0, 1);
        Edges.forceIs(x, 1, 0, 1);
        Edges.leastIs(x, false, 0, 0);
        Edges.leastIs(x, true, 0, 0);
    }

    static void promise01_isNotKept() {
        Edges.refused("undo()", 0, Edges::fresh, x -> Edges.num(x.undo()));
    }

    static void promise01_eachObjectForItself() {
        FlowMeters x = new FlowMeters();
        FlowMeters y = new FlowMeters();
        x.works(5);
        x.flow(3, 4);
        is("look(0) of another object", y.look(0), 2);
        is("look(1) of another object", y.look(1), 0);
        no("undo() of another object", y.undo());
    }

    // Promise 2: works.

    static void promise02_twoToSix() {
        for (int k = 2; k <= 6; k++) {
            FlowMeters x = new FlowMeters();
            yes("works(" + k + ")", x.works(k));
            is("look(0)", x.look(0), k);
            is("heap of the last knot", x.heap(k - 1), k - 1);
            is("heap behind the last knot", x.heap(k), NONE);
        }
    }

    static void promise02_tooSmall() {
        for (int k : new int[] {1, 0, -1, -2, -6, MIN, MIN + 2}) {
            Edges.refused("works(" + k + ")", 0, Edges::busy, x -> Edges.num(x.works(k)));
            Edges.refused("works(" + k + ")", 0, Edges::fresh, x -> Edges.num(x.works(k)));
        }
    }

    static void promise02_tooLarge() {
        for (int k : new int[] {7, 8, 10, 34, 258, 65538, MAX}) {
            Edges.refused("works(" + k + ")", 0, Edges::busy, x -> Edges.num(x.works(k)));
            Edges.refused("works(" + k + ")", 0, Edges::full, x -> Edges.num(x.works(k)));
        }
    }

    static void promise02_withoutFlows() {
        for (int k = 2; k <= 6; k++) {
            FlowMeters x = Edges.made(Edges::full);
            yes("works(" + k + ")", x.works(k));
            FlowMeters y = new FlowMeters();
            y.works(k);
            Edges.same("works behind works", Edges.answers(x), Edges.answers(y));
        }
    }

    static void promise02_asManyKnotsAsBefore() {
        FlowMeters x = Edges.made(Edges::busy);
        yes("works(3) of three knots", x.works(3));
        is("look(1)", x.look(1), 0);
        is("of(0, 0)", x.of(0, 0), NONE);
    }

    static void promise02_fewerKnots() {
        FlowMeters x = Edges.made(Edges::full);
        yes("works(2)", x.works(2));
        is("heap(2)", x.heap(2), NONE);
        is("force(2, 0)", x.force(2, 0), NONE);
        is("flow(1, 2)", x.flow(1, 2), NONE);
        is("flow(0, 1)", x.flow(0, 1), 0);
        is("look(3)", x.look(3), 1);
    }

    static void promise02_flowsAreNumberedAnew() {
        FlowMeters x = Edges.made(Edges::full);
        x.works(6);
        for (int f = 0; f < 10; f++) {
            is("flow(0, 1)", x.flow(0, 1), f);
        }
        is("flow(0, 1) beyond ten", x.flow(0, 1), NONE);
    }

    // Promise 3: flow.

    static void promise03_numbersInTheirOrder() {
        FlowMeters x = new FlowMeters();
        for (int f = 0; f < 10; f++) {
            is("flow", f % 2 == 0 ? x.flow(0, 1) : x.flow(1, 0), f);
            is("of(" + f + ", 0)", x.of(f, 0), f % 2);
            is("of(" + f + ", 1)", x.of(f, 1), 1 - f % 2);
            is("look(1)", x.look(1), f + 1);
        }
    }

    static void promise03_thereAreTen() {
        Edges.refused("flow(0, 1)", NONE, Edges::full, x -> x.flow(0, 1));
        Edges.refused("flow(5, 4)", NONE, Edges::full, x -> x.flow(5, 4));
    }

    static void promise03_theTenthComes() {
        FlowMeters x = Edges.make(2);
        for (int f = 0; f < 9; f++) {
            x.flow(0, 1);
        }
        is("the tenth", x.flow(1, 0), 9);
        yes("undo()", x.undo());
        is("the tenth again", x.flow(0, 1), 9);
        is("an eleventh", x.flow(0, 1), NONE);
    }

    static void promise03_noSuchKnotFrom() {
        for (int a : Edges.outside(0, 2)) {
            Edges.refused("flow(" + a + ", 1)", NONE, Edges::busy, x -> x.flow(a, 1));
        }
    }

    static void promise03_noSuchKnotTo() {
        for (int b : Edges.outside(0, 2)) {
            Edges.refused("flow(1, " + b + ")", NONE, Edges::busy, x -> x.flow(1, b));
        }
    }

    static void promise03_lastKnotOfEachWorks() {
        for (int k = 2; k <= 6; k++) {
            int last = k - 1;
            int behind = k;
            FlowMeters x = Edges.make(k);
            is("flow(" + behind + ", 0)", x.flow(behind, 0), NONE);
            is("flow(0, " + behind + ")", x.flow(0, behind), NONE);
            is("flow(" + last + ", 0)", x.flow(last, 0), 0);
            is("flow(0, " + last + ")", x.flow(0, last), 1);
        }
    }

    static void promise03_theSame() {
        for (int k = 0; k < 3; k++) {
            int knot = k;
            Edges.refused("flow(" + k + ", " + k + ")", NONE, Edges::busy, x -> x.flow(knot, knot));
        }
        Edges.refused("flow(-1, -1)", NONE, Edges::busy, x -> x.flow(-1, -1));
        Edges.refused("flow(3, 3)", NONE, Edges::busy, x -> x.flow(3, 3));
    }

    static void promise03_atFirst() {
        FlowMeters x = Edges.make(2, 0, 1);
        Edges.ofIs(x, 0, BARE);
        no("unread(0): it is unread", x.unread(0));
        no("lose(0): it has no sheet", x.lose(0));
    }

    static void promise03_bareWhereAnotherWas() {
        FlowMeters x = Edges.make(2, 0, 1);
        x.read(0, 5);
        x.miss(0, 3);
        x.price(0, 9);
        x.sheet(0, 2, 4, 0x07070707, 0, 0, 0);
        x.works(2);
        is("flow(0, 1)", x.flow(0, 1), 0);
        Edges.ofIs(x, 0, BARE);
        is("hour(0)", x.hour(0), 0);
        FlowMeters y = Edges.make(2);
        y.flow(1, 0);
        y.miss(0, 2);
        y.price(0, 3);
        y.read(0, 4);
        for (int i = 0; i < 4; i++) {
            yes("undo()", y.undo());
        }
        is("flow(0, 1) where one was taken back", y.flow(0, 1), 0);
        Edges.ofIs(y, 0, BARE);
    }

    // Promise 4: read.

    static void promise04_leastAndGreatestReading() {
        for (int m : new int[] {-2000, -1999, -1, 0, 1, 1999, 2000}) {
            FlowMeters x = Edges.make(2, 0, 1);
            yes("read(0, " + m + ")", x.read(0, m));
            is("of(0, 2)", x.of(0, 2), 1);
            is("of(0, 3)", x.of(0, 3), m);
            is("look(2)", x.look(2), 1);
        }
    }

    static void promise04_noSuchReading() {
        for (int m : Edges.outside(-2000, 2000)) {
            Edges.refused("read(0, " + m + ")", 0, Edges::busy, x -> Edges.num(x.read(0, m)));
            Edges.refused("read(3, " + m + ")", 0, Edges::busy, x -> Edges.num(x.read(3, m)));
        }
    }

    static void promise04_noSuchFlow() {
        for (int f : NO_FLOWS_OF_FOUR) {
            Edges.refused("read(" + f + ", 5)", 0, Edges::busy, x -> Edges.num(x.read(f, 5)));
        }
        Edges.refused("read(0, 5)", 0, Edges::fresh, x -> Edges.num(x.read(0, 5)));
        Edges.refused("read(10, 5)", 0, Edges::full, x -> Edges.num(x.read(10, 5)));
        yes("read(9, 5) of ten", Edges.made(Edges::full).read(9, 5));
    }

    static void promise04_aReadingOfZeroIsRead() {
        FlowMeters x = Edges.make(2, 0, 1);
        yes("read(0, 0)", x.read(0, 0));
        is("of(0, 2)", x.of(0, 2), 1);
        yes("unread(0)", x.unread(0));
        is("of(0, 2)", x.of(0, 2), 0);
    }

    static void promise04_readAgain() {
        FlowMeters x = Edges.make(2, 0, 1, 0, 1);
        yes("read(0, 7)", x.read(0, 7));
        yes("read(0, -8)", x.read(0, -8));
        is("of(0, 3)", x.of(0, 3), -8);
        is("of(1, 2)", x.of(1, 2), 0);
        is("look(2)", x.look(2), 1);
    }

    // Promise 5: unread.

    static void promise05_ofAReadOne() {
        FlowMeters x = Edges.made(Edges::busy);
        yes("unread(1)", x.unread(1));
        Edges.ofIs(x, 1, 1, 2, 0, 0, 2, 1, 3, 3);
        is("look(2)", x.look(2), 2);
        is("of(0, 3)", x.of(0, 3), 10);
        is("of(2, 3)", x.of(2, 3), 9);
    }

    static void promise05_itWasUnread() {
        Edges.refused("unread(3)", 0, Edges::busy, x -> Edges.num(x.unread(3)));
        FlowMeters x = Edges.made(Edges::busy);
        yes("unread(0)", x.unread(0));
        no("unread(0) again", x.unread(0));
        is("hour(2)", x.hour(2), 2);
        no("unread(2): the hour made it unread", x.unread(2));
        yes("unread(1): the hour made it read", x.unread(1));
    }

    static void promise05_noSuchFlow() {
        for (int f : NO_FLOWS_OF_FOUR) {
            Edges.refused("unread(" + f + ")", 0, Edges::busy, x -> Edges.num(x.unread(f)));
        }
        Edges.refused("unread(0)", 0, Edges::fresh, x -> Edges.num(x.unread(0)));
        Edges.refused("unread(10)", 0, Edges::full, x -> Edges.num(x.unread(10)));
    }

    // Promise 6: miss.

    static void promise06_oneToFour() {
        FlowMeters x = Edges.make(2, 0, 1, 0, 1);
        for (int v : new int[] {4, 3, 2, 1}) {
            yes("miss(1, " + v + ")", x.miss(1, v));
            is("of(1, 4)", x.of(1, 4), v);
            is("of(0, 4)", x.of(0, 4), 1);
        }
    }

    static void promise06_noSuchMiss() {
        for (int v : Edges.outside(1, 4)) {
            Edges.refused("miss(1, " + v + ")", 0, Edges::busy, x -> Edges.num(x.miss(1, v)));
        }
    }

    static void promise06_noSuchFlow() {
        for (int f : NO_FLOWS_OF_FOUR) {
            Edges.refused("miss(" + f + ", 3)", 0, Edges::busy, x -> Edges.num(x.miss(f, 3)));
        }
        Edges.refused("miss(0, 3)", 0, Edges::fresh, x -> Edges.num(x.miss(0, 3)));
        Edges.refused("miss(10, 3)", 0, Edges::full, x -> Edges.num(x.miss(10, 3)));
        yes("miss(9, 3) of ten", Edges.made(Edges::full).miss(9, 3));
    }

    static void promise06_ofAnUnreadOne() {
        FlowMeters x = Edges.make(2, 0, 1, 1, 0);
        yes("miss(0, 3)", x.miss(0, 3));
        Edges.readAll(x, 4, 0);
        Edges.changeIs(x, 0, -3, 1);
        x.unread(0);
        is("of(0, 4)", x.of(0, 4), 3);
    }

    // Promise 7: price.

    static void promise07_zeroToNinetyNine() {
        FlowMeters x = Edges.make(2, 0, 1, 0, 1);
        for (int v : new int[] {0, 1, 98, 99}) {
            yes("price(1, " + v + ")", x.price(1, v));
            is("of(1, 5)", x.of(1, 5), v);
            is("of(0, 5)", x.of(0, 5), 1);
        }
    }

    static void promise07_noSuchPrice() {
        for (int v : Edges.outside(0, 99)) {
            Edges.refused("price(3, " + v + ")", 0, Edges::busy, x -> Edges.num(x.price(3, v)));
        }
    }

    static void promise07_noSuchFlow() {
        for (int f : NO_FLOWS_OF_FOUR) {
            Edges.refused("price(" + f + ", 50)", 0, Edges::busy, x -> Edges.num(x.price(f, 50)));
        }
        Edges.refused("price(0, 50)", 0, Edges::fresh, x -> Edges.num(x.price(0, 50)));
        Edges.refused("price(10, 50)", 0, Edges::full, x -> Edges.num(x.price(10, 50)));
        yes("price(9, 50) of ten", Edges.made(Edges::full).price(9, 50));
    }

    // Promise 8: sheet.

    static void promise08_zeroToSixteenNumbers() {
        for (int n = 0; n <= 16; n++) {
            FlowMeters x = Edges.make(2, 0, 1);
            is("sheet of " + n, x.sheet(0, 1, n, -1, -1, -1, -1), n);
            is("of(0, 6)", x.of(0, 6), 1);
            is("of(0, 7)", x.of(0, 7), n);
            for (int h = 0; h < 16; h++) {
                is("hour(" + h + ") of " + n, x.hour(h), h < n ? 1 : 0);
                is("of(0, 3)", x.of(0, 3), h < n ? -10 : 0);
            }
        }
    }

    static void promise08_noSuchN() {
        for (int n : Edges.outside(0, 16)) {
            Edges.refused("sheet(0, 1, " + n + ", ..)", NONE, Edges::busy,
                    x -> x.sheet(0, 1, n, 7, 7, 7, 7));
            Edges.refused("sheet(3, 1, " + n + ", ..)", NONE, Edges::busy,
                    x -> x.sheet(3, 1, n, 7, 7, 7, 7));
        }
    }

    static void promise08_noSuchKind() {
        for (int kind : Edges.outside(0, 3)) {
            Edges.refused("sheet(0, " + kind + ", 4, ..)", NONE, Edges::busy,
                    x -> x.sheet(0, kind, 4, 7, 7, 7, 7));
            Edges.refused("sheet(3, " + kind + ", 4, ..)", NONE, Edges::busy,
                    x -> x.sheet(3, kind, 4, 7, 7, 7, 7));
        }
    }

    static void promise08_noSuchFlow() {
        for (int f : NO_FLOWS_OF_FOUR) {
            Edges.refused("sheet(" + f + ", 1, 4, ..)", NONE, Edges::busy,
                    x -> x.sheet(f, 1, 4, 7, 7, 7, 7));
        }
        Edges.refused("sheet(0, 1, 4, ..)", NONE, Edges::fresh, x -> x.sheet(0, 1, 4, 7, 7, 7, 7));
        Edges.refused("sheet(10, 1, 4, ..)", NONE, Edges::full, x -> x.sheet(10, 1, 4, 7, 7, 7, 7));
        is("sheet of the tenth", Edges.made(Edges::full).sheet(9, 1, 16, 7, 7, 7, 7), 16);
    }

    static void promise08_theHighestByteOfAFirst() {
        for (int kind = 0; kind < 4; kind++) {
            FlowMeters x = Edges.make(2, 0, 1, 0, 1);
            x.sheet(1, kind, 16, 0x31323334, 0x35363738, 0x393A3B3C, 0x3D3E3F40);
            x.sheet(0, kind, 16, 0x01020304, 0x05060708, 0x090A0B0C, 0x0D0E0F10);
            for (int h = 0; h < 16; h++) {
                is("hour(" + h + ")", x.hour(h), 2);
                is("of(0, 3) at " + h, x.of(0, 3), 10 * (h + 1));
                is("of(1, 3) at " + h, x.of(1, 3), 10 * (h + 49));
            }
        }
    }

    static void promise08_bytesWithTheirSigns() {
        for (int kind = 0; kind < 4; kind++) {
            FlowMeters x = Edges.make(2, 0, 1);
            // Bytes with and without signs beside one another, so that none may spill into its next.
            x.sheet(0, kind, 16, 0x7F81FF00, 0x00FF817F, 0xFF7F0081, 0x8100FF7F);
            int[] due = {127, -127, -1, 0, 0, -1, -127, 127, -1, 127, 0, -127, -127, 0, -1, 127};
            for (int h = 0; h < 16; h++) {
                is("hour(" + h + ")", x.hour(h), 1);
                is("of(0, 2) at " + h, x.of(0, 2), 1);
                is("of(0, 3) at " + h, x.of(0, 3), 10 * due[h]);
            }
        }
    }

    static void promise08_minus128OfDoublesIsNoNumber() {
        for (int kind = 0; kind < 4; kind++) {
            FlowMeters x = Edges.make(2, 0, 1);
            x.sheet(0, kind, 16, 0x80808080, 0x80808080, 0x80808080, 0x80808080);
            for (int h = 0; h < 16; h++) {
                is("hour(" + h + ") of kind " + kind, x.hour(h), kind == 3 ? 0 : 1);
                is("of(0, 2)", x.of(0, 2), kind == 3 ? 0 : 1);
                is("of(0, 3)", x.of(0, 3), kind == 3 ? 0 : -1280);
            }
            is("of(0, 7): it counts all the same", x.of(0, 7), 16);
        }
    }

    static void promise08_aSheetInPlaceOfAnother() {
        FlowMeters x = Edges.make(2, 0, 1);
        x.sheet(0, 3, 16, 0x80808080, -1, -1, -1);
        is("a shorter one", x.sheet(0, 2, 2, 0x04800606, 0x07070707, 0, 0), 2);
        is("of(0, 6)", x.of(0, 6), 2);
        is("of(0, 7)", x.of(0, 7), 2);
        is("hour(1)", x.hour(1), 1);
        is("of(0, 3)", x.of(0, 3), -1280);
        is("hour(2): it ends ahead", x.hour(2), 0);
        is("hour(15): it ends ahead", x.hour(15), 0);
        is("one without numbers", x.sheet(0, 0, 0, -1, -1, -1, -1), 0);
        is("hour(0)", x.hour(0), 0);
        is("a longer one", x.sheet(0, 0, 16, 0x01010101, 0x01010101, 0x01010101, 0x01010102), 16);
        is("hour(15)", x.hour(15), 1);
        is("of(0, 3)", x.of(0, 3), 20);
    }

    static void promise08_readsNothingByItself() {
        FlowMeters x = Edges.make(2, 0, 1, 0, 1);
        x.read(1, 5);
        x.sheet(0, 0, 16, -1, -1, -1, -1);
        x.sheet(1, 0, 16, -1, -1, -1, -1);
        is("of(0, 2)", x.of(0, 2), 0);
        is("of(1, 3)", x.of(1, 3), 5);
    }

    // Promise 9: lose.

    static void promise09_aSheetIsLost() {
        FlowMeters x = Edges.made(Edges::busy);
        yes("lose(0)", x.lose(0));
        is("of(0, 6)", x.of(0, 6), NONE);
        is("of(0, 7)", x.of(0, 7), 0);
        is("of(0, 3): the reading stays", x.of(0, 3), 10);
        is("of(1, 6): the others stay", x.of(1, 6), 3);
        is("hour(0)", x.hour(0), 1);
        is("of(0, 2)", x.of(0, 2), 0);
    }

    static void promise09_aSheetWithoutNumbersIsLost() {
        FlowMeters x = Edges.made(Edges::busy);
        yes("lose(2)", x.lose(2));
        is("of(2, 6)", x.of(2, 6), NONE);
        for (int kind = 0; kind < 4; kind++) {
            is("sheet", x.sheet(2, kind, 0, 0, 0, 0, 0), 0);
            yes("lose(2) of kind " + kind, x.lose(2));
            no("lose(2) again", x.lose(2));
        }
    }

    static void promise09_itHasNone() {
        Edges.refused("lose(3)", 0, Edges::busy, x -> Edges.num(x.lose(3)));
        Edges.Recipe lost = x -> {
            Edges.busy(x);
            x.lose(0);
        };
        Edges.refused("lose(0) again", 0, lost, x -> Edges.num(x.lose(0)));
    }

    static void promise09_noSuchFlow() {
        for (int f : NO_FLOWS_OF_FOUR) {
            Edges.refused("lose(" + f + ")", 0, Edges::busy, x -> Edges.num(x.lose(f)));
        }
        Edges.refused("lose(0)", 0, Edges::fresh, x -> Edges.num(x.lose(0)));
        Edges.refused("lose(10)", 0, Edges::full, x -> Edges.num(x.lose(10)));
        yes("lose(9) of ten", Edges.made(Edges::full).lose(9));
    }

    // Promise 10: hour.

    static void promise10_firstAndLastHour() {
        FlowMeters x = Edges.make(2, 0, 1);
        x.sheet(0, 1, 16, 0x05000000, 0, 0, 6);
        is("hour(0)", x.hour(0), 1);
        is("of(0, 3)", x.of(0, 3), 50);
        is("hour(15)", x.hour(15), 1);
        is("of(0, 3)", x.of(0, 3), 60);
    }

    static void promise10_anotherH() {
        for (int h : Edges.outside(0, 15)) {
            Edges.refused("hour(" + h + ")", NONE, Edges::busy, x -> x.hour(h));
        }
        Edges.refused("hour(16)", NONE, Edges::fresh, x -> x.hour(16));
        Edges.refused("hour(-1)", NONE, Edges::full, x -> x.hour(-1));
    }

    static void promise10_noFlows() {
        FlowMeters x = new FlowMeters();
        is("hour(0)", x.hour(0), 0);
        is("hour(15)", x.hour(15), 0);
    }

    static void promise10_noSheet() {
        FlowMeters x = Edges.make(2, 0, 1, 0, 1);
        Edges.readAll(x, 3, 0);
        is("hour(7)", x.hour(7), 0);
        is("of(0, 2)", x.of(0, 2), 0);
        is("of(0, 3)", x.of(0, 3), 0);
        is("of(1, 2)", x.of(1, 2), 0);
        is("look(2)", x.look(2), 0);
    }

    static void promise10_theSheetEndsAhead() {
        for (int n = 0; n <= 15; n++) {
            FlowMeters x = Edges.make(2, 0, 1);
            x.sheet(0, 0, n, 0x09090909, 0x09090909, 0x09090909, 0x09090909);
            x.read(0, 4);
            is("hour(" + n + ") of " + n + " numbers", x.hour(n), 0);
            is("of(0, 2)", x.of(0, 2), 0);
            is("of(0, 3)", x.of(0, 3), 0);
            if (n > 0) {
                is("hour(" + (n - 1) + ") of " + n + " numbers", x.hour(n - 1), 1);
                is("of(0, 3)", x.of(0, 3), 90);
            }
        }
    }

    static void promise10_noNumberThere() {
        FlowMeters x = Edges.make(2, 0, 1);
        x.sheet(0, 3, 3, 0x80008000, 0, 0, 0);
        x.read(0, 4);
        is("hour(0)", x.hour(0), 0);
        is("of(0, 2)", x.of(0, 2), 0);
        is("of(0, 3)", x.of(0, 3), 0);
        is("hour(1): 0 is a number", x.hour(1), 1);
        is("of(0, 2)", x.of(0, 2), 1);
        is("hour(2)", x.hour(2), 0);
    }

    static void promise10_allTenAreRead() {
        FlowMeters x = Edges.made(Edges::full);
        for (int f = 0; f < 10; f++) {
            x.sheet(f, f % 4, f + 1, 0x01010101 * (f + 1), 0x01010101 * (f + 1), 0x01010101 * (f + 1), 0);
        }
        for (int h = 0; h <= 10; h++) {
            is("hour(" + h + ")", x.hour(h), 10 - h);
            is("look(2)", x.look(2), 10 - h);
            for (int f = 0; f < 10; f++) {
                is("of(" + f + ", 3) at " + h, x.of(f, 3), h <= f ? 10 * (f + 1) : 0);
            }
        }
    }

    // Promise 11: undo.

    static void promise11_thereIsNone() {
        Edges.refused("undo()", 0, Edges::fresh, x -> Edges.num(x.undo()));
        Edges.Recipe emptied = x -> {
            Edges.busy(x);
            for (int i = 0; i < 6; i++) {
                yes("undo()", x.undo());
            }
        };
        Edges.refused("undo() of a seventh", 0, emptied, x -> Edges.num(x.undo()));
    }

    static void promise11_fewerThanSixAreKept() {
        for (int n = 0; n <= 6; n++) {
            FlowMeters x = new FlowMeters();
            for (int i = 0; i < n; i++) {
                x.flow(0, 1);
            }
            for (int i = n - 1; i >= 0; i--) {
                yes("undo() of " + n, x.undo());
                is("look(1)", x.look(1), i);
            }
            no("undo() behind " + n, x.undo());
            is("look(1)", x.look(1), 0);
        }
    }

    static void promise11_theLatestSixAreKept() {
        for (int n = 6; n <= 30; n++) {
            FlowMeters x = Edges.make(2, 0, 1);
            for (int v = 1; v <= n; v++) {
                x.read(0, v);
            }
            for (int v = n - 1; v >= n - 6; v--) {
                yes("undo() of " + n, x.undo());
                is("of(0, 3)", x.of(0, 3), v);
            }
            no("undo() of a seventh", x.undo());
            is("of(0, 3)", x.of(0, 3), n - 6);
        }
    }

    static void promise11_callsBehindUndo() {
        for (int n = 1; n <= 20; n++) {
            FlowMeters x = Edges.make(2, 0, 1);
            for (int v = 1; v <= n; v++) {
                x.read(0, v);
                x.read(0, 1000);
                yes("undo() of 1000", x.undo());
            }
            // Kept are works(), flow() and n readings; of six the latest 1000 has pushed out one.
            int left = Math.min(n + 2, 5);
            for (int i = 1; i <= left; i++) {
                yes("undo() " + i + " of " + n, x.undo());
                is("of(0, 3)", x.of(0, 3), i <= n ? n - i : NONE);
            }
            no("undo(): none is left of " + n, x.undo());
        }
    }

    static void promise11_refusedCallsAreNotKept() {
        Edges.Call[] refused = {x -> Edges.num(x.works(7)), x -> x.flow(0, 0) + 1, x -> x.flow(0, 3) + 1,
            x -> Edges.num(x.read(0, 2001)), x -> Edges.num(x.unread(3)), x -> Edges.num(x.miss(0, 0)),
            x -> Edges.num(x.price(0, 100)), x -> x.sheet(0, 4, 1, 0, 0, 0, 0) + 1,
            x -> Edges.num(x.lose(3)), x -> x.hour(16) + 1};
        for (int i = 0; i < refused.length; i++) {
            FlowMeters x = Edges.made(Edges::busy);
            x.read(0, 77);
            for (int again = 0; again < 7; again++) {
                is("refused call " + i, refused[i].on(x), 0);
            }
            yes("undo() behind refused call " + i, x.undo());
            is("of(0, 3)", x.of(0, 3), 10);
        }
    }

    static void promise11_asksAreNotKept() {
        FlowMeters x = Edges.made(Edges::busy);
        x.read(0, 77);
        Edges.answers(x);
        yes("undo() behind asks", x.undo());
        is("of(0, 3)", x.of(0, 3), 10);
    }

    static void promise11_undoIsNotKept() {
        FlowMeters x = Edges.make(2, 0, 1);
        x.read(0, 5);
        yes("undo()", x.undo());
        is("of(0, 2)", x.of(0, 2), 0);
        yes("undo() again", x.undo());
        is("look(1)", x.look(1), 0);
        yes("undo() of works()", x.undo());
        no("undo(): none is left", x.undo());
    }

    static void promise11_eachCallIsTakenBack() {
        Edges.Recipe busy = Edges::busy;
        Edges.takenBack("works(2)", busy, x -> Edges.num(x.works(2)));
        Edges.takenBack("works(6)", busy, x -> Edges.num(x.works(6)));
        Edges.takenBack("flow(2, 1)", busy, x -> x.flow(2, 1));
        Edges.takenBack("read(0, -5)", busy, x -> Edges.num(x.read(0, -5)));
        Edges.takenBack("read(3, 0)", busy, x -> Edges.num(x.read(3, 0)));
        Edges.takenBack("unread(1)", busy, x -> Edges.num(x.unread(1)));
        Edges.takenBack("miss(1, 4)", busy, x -> Edges.num(x.miss(1, 4)));
        Edges.takenBack("price(3, 0)", busy, x -> Edges.num(x.price(3, 0)));
        Edges.takenBack("sheet(0, ..)", busy, x -> x.sheet(0, 3, 2, 0x80808080, -1, -1, -1));
        Edges.takenBack("sheet(3, ..)", busy, x -> x.sheet(3, 1, 16, -1, -1, -1, -1));
        Edges.takenBack("sheet(2, ..)", busy, x -> x.sheet(2, 2, 16, -1, -1, -1, -1));
        Edges.takenBack("lose(1)", busy, x -> Edges.num(x.lose(1)));
        Edges.takenBack("lose(2)", busy, x -> Edges.num(x.lose(2)));
        Edges.takenBack("hour(0)", busy, x -> x.hour(0));
        Edges.takenBack("hour(15)", busy, x -> x.hour(15));
    }

    static void promise11_worksWithTenFlowsComeBack() {
        Edges.takenBack("works(2)", Edges::full, x -> Edges.num(x.works(2)));
        Edges.takenBack("hour(3)", Edges::full, x -> x.hour(3));
    }

    static void promise11_everySheetComesBackWhole() {
        Edges.Recipe sheets = x -> {
            Edges.full(x);
            for (int f = 0; f < 10; f++) {
                x.sheet(f, f % 4, 16, 0x01020304 + f, 0x05060708 + f, 0x090A0B0C + f, 0x0D0E0F10 + f);
            }
        };
        for (int f = 0; f < 10; f++) {
            int flow = f;
            Edges.takenBack("sheet(" + f + ", ..)", sheets, x -> x.sheet(flow, 3, 16, -1, -1, -1, -1));
            Edges.takenBack("lose(" + f + ")", sheets, x -> Edges.num(x.lose(flow)));
        }
    }

    static void promise11_worksThatWereFilledAgainComeBack() {
        FlowMeters x = Edges.made(Edges::busy);
        x.works(4);
        x.flow(3, 2);
        x.sheet(0, 3, 16, 0x21212121, 0x21212121, 0x21212121, 0x21212121);
        x.read(0, -999);
        x.miss(0, 4);
        for (int i = 0; i < 5; i++) {
            yes("undo()", x.undo());
        }
        FlowMeters y = Edges.made(Edges::busy);
        Edges.same("works that come back", Edges.answers(x), Edges.answers(y));
        Edges.same("their sheets", Edges.hours(x), Edges.hours(y));
    }

    static void promise11_doneThoughNothingChanged() {
        FlowMeters x = Edges.make(2, 0, 1);
        x.read(0, 5);
        yes("read(0, 5)", x.read(0, 5));
        yes("miss(0, 1)", x.miss(0, 1));
        yes("price(0, 1)", x.price(0, 1));
        yes("undo() of price()", x.undo());
        yes("undo() of miss()", x.undo());
        yes("undo() of read()", x.undo());
        is("of(0, 3)", x.of(0, 3), 5);
        FlowMeters y = new FlowMeters();
        yes("works(2)", y.works(2));
        is("hour(0)", y.hour(0), 0);
        yes("undo() of hour()", y.undo());
        yes("undo() of works()", y.undo());
        no("undo(): none is left", y.undo());
    }
}
