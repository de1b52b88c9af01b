/** Promises 12 to 26: the boundary cases of the calls that only answer. */
public final class EdgesOfAnswersTest {
    private static final int NONE = Edges.NONE;
    private static final int[] NO_FLOWS_OF_THREE = Edges.outside(0, 2);

    private EdgesOfAnswersTest() {
    }

    public static void main(String[] args) {
        Edges.runAll(EdgesOfAnswersTest.class, 12, 26);
    }

    private static void is(String call, long got, long want) {
        Edges.is(call, got, want);
    }

    private static void yes(String call, boolean got) {
        Edges.yes(call, got);
    }

    private static void no(String call, boolean got) {
        Edges.no(call, got);
    }

    /** Two knots, ten flows from 0 to 1 that are not read. */
    private static FlowMeters tenBesideOneAnother() {
        return Edges.make(2, 0, 1, 0, 1, 0, 1, 0, 1, 0, 1, 0, 1, 0, 1, 0, 1, 0, 1, 0, 1);
    }

    /** Six knots in a row, flow f from knot f to its next. */
    private static FlowMeters row(int... readings) {
        FlowMeters x = Edges.make(6, 0, 1, 1, 2, 2, 3, 3, 4, 4, 5);
        Edges.readAll(x, readings);
        return x;
    }

    /** Two triangles of knots 0, 1, 2 and 3, 4, 5 with flow 6 from 2 to 3 between them. */
    private static FlowMeters twoTriangles() {
        return Edges.make(6, 0, 1, 2, 1, 2, 0, 3, 4, 4, 5, 3, 5, 2, 3);
    }

    /** The greatest numbers against one another: flow 0 from 0 to 1 tells 2000, flow 1 back -2000. */
    private static FlowMeters greatest() {
        FlowMeters x = Edges.make(2, 0, 1, 1, 0);
        Edges.readAll(x, 2000, -2000);
        return x;
    }

    // Promise 12: look.

    static void promise12_anotherWhat() {
        for (int what : Edges.outside(0, 6)) {
            is("look(" + what + ")", Edges.triangle().look(what), NONE);
            is("look(" + what + ") of a new object", new FlowMeters().look(what), NONE);
        }
    }

    static void promise12_fewestAndMost() {
        int[] fewest = {2, 0, 0, 2, 0, 0, 0};
        int[] most = {6, 10, 8, 4, 10, 8, 2};
        FlowMeters x = new FlowMeters();
        FlowMeters y = Edges.made(Edges::full);
        for (int what = 0; what < 7; what++) {
            is("look(" + what + ") of a new object", x.look(what), fewest[what]);
            is("look(" + what + ") of full works", y.look(what), most[what]);
        }
    }

    static void promise12_noneRead() {
        FlowMeters x = tenBesideOneAnother();
        int[] due = {2, 10, 0, 1, 0, 0, 0};
        for (int what = 0; what < 7; what++) {
            is("look(" + what + ")", x.look(what), due[what]);
        }
    }

    static void promise12_allRead() {
        FlowMeters x = tenBesideOneAnother();
        Edges.readAll(x, 2000, 2000, 2000, 2000, 2000, 2000, 2000, 2000, 2000, 2000);
        int[] due = {2, 10, 10, 2, 10, 10, 2};
        for (int what = 0; what < 7; what++) {
            is("look(" + what + ")", x.look(what), due[what]);
        }
    }

    static void promise12_aKnotAloneIsAHeap() {
        for (int k = 2; k <= 6; k++) {
            FlowMeters x = Edges.make(k);
            is("look(3) of " + k, x.look(3), k);
            x.flow(k - 1, 0);
            is("look(3) of " + k + " with a flow", x.look(3), k - 1);
            x.read(0, 0);
            is("look(3) of " + k + " with a meter", x.look(3), k);
        }
    }

    static void promise12_aKnotWithAnUnreadFlowIsNotOutOfBalance() {
        FlowMeters x = Edges.make(3, 0, 1, 1, 2, 2, 0);
        x.read(0, 5);
        is("look(6)", x.look(6), 0);
        x.read(1, 7);
        is("look(6): knot 1 alone", x.look(6), 1);
        x.read(2, 5);
        is("look(6): knots 1 and 2", x.look(6), 2);
        x.read(2, 6);
        is("look(6): the outside too", x.look(6), 3);
    }

    static void promise12_allFlowsOfAKnotMustBeRead() {
        for (int unread = 0; unread < 3; unread++) {
            FlowMeters x = Edges.make(3, 0, 1, 1, 2, 2, 0);
            Edges.readAll(x, 5, 7, 9);
            is("look(6)", x.look(6), 3);
            x.unread(unread);
            is("look(6) without flow " + unread + ": the knot that it does not touch", x.look(6), 1);
        }
    }

    static void promise12_aKnotWithoutFlowsBalances() {
        FlowMeters x = Edges.make(6, 0, 1);
        x.read(0, 0);
        is("look(6)", x.look(6), 0);
        x.read(0, -1);
        is("look(6)", x.look(6), 2);
    }

    static void promise12_readingsThatMakeUpForOneAnotherBalance() {
        FlowMeters x = Edges.make(2, 0, 1, 0, 1, 1, 0);
        Edges.readAll(x, 2000, -1999, 1);
        is("look(6)", x.look(6), 0);
        x.read(2, -1);
        is("look(6)", x.look(6), 2);
    }

    // Promise 13: of.

    static void promise13_noSuchFlow() {
        for (int f : NO_FLOWS_OF_THREE) {
            FlowMeters x = Edges.triangle();
            for (int what = -1; what <= 8; what++) {
                is("of(" + f + ", " + what + ")", x.of(f, what), NONE);
            }
        }
        is("of(10, 0) of ten", Edges.made(Edges::full).of(10, 0), NONE);
        is("of(9, 0) of ten", Edges.made(Edges::full).of(9, 0), 3);
    }

    static void promise13_anotherWhat() {
        for (int what : Edges.outside(0, 7)) {
            is("of(0, " + what + ")", Edges.triangle().of(0, what), NONE);
        }
    }

    static void promise13_ofAnUnreadOne() {
        FlowMeters x = Edges.make(2, 0, 1, 1, 0);
        Edges.ofIs(x, 0, 0, 1, 0, 0, 1, 1, NONE, 0);
        x.read(0, 55);
        x.unread(0);
        Edges.ofIs(x, 0, 0, 1, 0, 0, 1, 1, NONE, 0);
        x.read(1, 55);
        x.hour(0);
        Edges.ofIs(x, 1, 1, 0, 0, 0, 1, 1, NONE, 0);
    }

    static void promise13_withoutASheet() {
        FlowMeters x = Edges.make(2, 0, 1);
        is("of(0, 6)", x.of(0, 6), NONE);
        is("of(0, 7)", x.of(0, 7), 0);
        x.sheet(0, 0, 0, 0, 0, 0, 0);
        is("of(0, 6) of a sheet without numbers", x.of(0, 6), 0);
        is("of(0, 7) of a sheet without numbers", x.of(0, 7), 0);
        x.sheet(0, 3, 16, 0, 0, 0, 0);
        is("of(0, 6)", x.of(0, 6), 3);
        is("of(0, 7)", x.of(0, 7), 16);
        x.lose(0);
        is("of(0, 6) behind lose()", x.of(0, 6), NONE);
        is("of(0, 7) behind lose()", x.of(0, 7), 0);
    }

    static void promise13_greatestAndLeast() {
        FlowMeters x = Edges.make(6, 5, 0, 0, 5);
        x.read(0, 2000);
        x.read(1, -2000);
        x.miss(0, 4);
        x.price(0, 99);
        x.price(1, 0);
        Edges.ofIs(x, 0, 5, 0, 1, 2000, 4, 99, NONE, 0);
        Edges.ofIs(x, 1, 0, 5, 1, -2000, 1, 0, NONE, 0);
    }

    // Promise 14: heap.

    static void promise14_noSuchKnot() {
        for (int k = 2; k <= 6; k++) {
            FlowMeters x = Edges.make(k, 0, 1);
            for (int wrong : Edges.outside(0, k - 1)) {
                is("heap(" + wrong + ") of " + k, x.heap(wrong), NONE);
            }
        }
    }

    static void promise14_aKnotAlone() {
        FlowMeters x = Edges.make(6, 0, 1, 4, 1);
        x.read(0, 3);
        int[] due = {0, 1, 2, 3, 1, 5};
        for (int k = 0; k < 6; k++) {
            is("heap(" + k + ")", x.heap(k), due[k]);
        }
    }

    static void promise14_allInOne() {
        FlowMeters x = Edges.make(6, 5, 4, 3, 4, 3, 2, 1, 2, 1, 0);
        for (int k = 0; k < 6; k++) {
            is("heap(" + k + ")", x.heap(k), 0);
        }
        x.read(3, 0);
        int[] due = {0, 0, 2, 2, 2, 2};
        for (int k = 0; k < 6; k++) {
            is("heap(" + k + ") parted", x.heap(k), due[k]);
        }
    }

    static void promise14_joinedLate() {
        FlowMeters x = Edges.make(6, 4, 5, 2, 3, 5, 2, 3, 1);
        int[] due = {0, 1, 1, 1, 1, 1};
        for (int k = 0; k < 6; k++) {
            is("heap(" + k + ")", x.heap(k), due[k]);
        }
    }

    // Promise 15: seen.

    static void promise15_noSuchFlow() {
        for (int f : NO_FLOWS_OF_THREE) {
            is("seen(" + f + ")", Edges.triangle().seen(f), NONE);
        }
        is("seen(0) of a new object", new FlowMeters().seen(0), NONE);
        is("seen(10) of ten", tenBesideOneAnother().seen(10), NONE);
        is("seen(9) of ten", tenBesideOneAnother().seen(9), 0);
    }

    static void promise15_twoFlowsBetweenTwoKnotsAreARound() {
        for (int turned = 0; turned < 2; turned++) {
            FlowMeters x = Edges.make(2, 0, 1, turned, 1 - turned);
            is("seen(0)", x.seen(0), 0);
            is("seen(1)", x.seen(1), 0);
            x.read(1, 0);
            is("seen(0) beside a meter", x.seen(0), 1);
            is("seen(1) with a meter", x.seen(1), 1);
        }
    }

    static void promise15_aFlowInNoRound() {
        FlowMeters x = Edges.make(3, 0, 1, 1, 2);
        is("seen(0)", x.seen(0), 1);
        is("seen(1)", x.seen(1), 1);
        FlowMeters y = twoTriangles();
        for (int f = 0; f < 6; f++) {
            is("seen(" + f + ") of a triangle", y.seen(f), 0);
        }
        is("seen(6) between two triangles", y.seen(6), 1);
    }

    static void promise15_aRoundOfSixHoweverDirected() {
        FlowMeters x = Edges.make(6, 0, 1, 2, 1, 2, 3, 4, 3, 4, 5, 0, 5);
        for (int f = 0; f < 6; f++) {
            is("seen(" + f + ")", x.seen(f), 0);
        }
        x.read(3, 7);
        for (int f = 0; f < 6; f++) {
            is("seen(" + f + ") with a meter", x.seen(f), 1);
        }
    }

    static void promise15_aReadOneInARound() {
        FlowMeters x = Edges.make(2, 0, 1, 0, 1, 1, 0);
        x.read(1, 0);
        is("seen(0)", x.seen(0), 0);
        is("seen(1)", x.seen(1), 1);
        is("seen(2)", x.seen(2), 0);
    }

    // Promise 16: value.

    static void promise16_notSeen() {
        FlowMeters x = Edges.make(3, 0, 1, 1, 0, 1, 2);
        for (int what = 0; what < 2; what++) {
            is("value(0, " + what + ")", x.value(0, what), NONE);
            is("value(1, " + what + ")", x.value(1, what), NONE);
        }
        Edges.valueIs(x, 2, 0, 1);
        x.read(1, -6);
        Edges.valueIs(x, 0, -6, 1);
    }

    static void promise16_noSuchFlow() {
        for (int f : NO_FLOWS_OF_THREE) {
            is("value(" + f + ", 0)", Edges.triangle().value(f, 0), NONE);
            is("value(" + f + ", 1)", Edges.triangle().value(f, 1), NONE);
        }
    }

    static void promise16_anotherWhat() {
        for (int what : Edges.WRONG_PARTS) {
            is("value(0, " + what + ")", Edges.triangle().value(0, what), NONE);
        }
    }

    static void promise16_zeroIsNothingOverOne() {
        FlowMeters x = Edges.make(2, 0, 1);
        Edges.valueIs(x, 0, 0, 1);
        x.miss(0, 4);
        x.read(0, 2000);
        Edges.valueIs(x, 0, 0, 1);
        FlowMeters y = greatest();
        y.miss(0, 3);
        y.miss(1, 3);
        Edges.valueIs(y, 0, 0, 1);
    }

    static void promise16_lowestTermsBelowAboveZero() {
        FlowMeters x = Edges.make(2, 0, 1, 0, 1);
        Edges.readAll(x, 3, 4);
        Edges.valueIs(x, 0, -1, 2);
        Edges.valueIs(x, 1, 1, 2);
        x.miss(0, 2);
        x.miss(1, 2);
        Edges.valueIs(x, 0, -1, 2);
        x.read(1, 5);
        Edges.valueIs(x, 0, -1, 1);
        Edges.valueIs(x, 1, 1, 1);
    }

    static void promise16_aMeterWithinAHeapIsNotChanged() {
        FlowMeters x = Edges.make(2, 0, 1, 0, 1, 0, 1);
        Edges.readAll(x, -2000, 1999);
        Edges.valueIs(x, 0, -2000, 1);
        Edges.valueIs(x, 1, 1999, 1);
        Edges.valueIs(x, 2, 1, 1);
    }

    static void promise16_anUnreadOneByTheFit() {
        FlowMeters x = Edges.make(3, 0, 1, 1, 2, 2, 0);
        x.read(0, 10);
        x.read(2, 13);
        Edges.valueIs(x, 1, 23, 2);
        FlowMeters y = Edges.make(3, 0, 1, 2, 1, 2, 0);
        y.read(0, 10);
        y.read(2, 13);
        Edges.valueIs(y, 1, -23, 2);
    }

    static void promise16_theMostThatAnUnreadOneCanBe() {
        FlowMeters x = tenBesideOneAnother();
        Edges.readAll(x, 2000, 2000, 2000, 2000, 2000, 2000, 2000, 2000, 2000);
        Edges.valueIs(x, 9, -18000, 1);
    }

    // Promise 17: change.

    static void promise17_unread() {
        FlowMeters x = Edges.make(3, 0, 1, 1, 2, 2, 0);
        x.read(0, 10);
        x.read(1, 13);
        for (int what = 0; what < 2; what++) {
            is("change(2, " + what + ")", x.change(2, what), NONE);
        }
        x.unread(1);
        is("change(1, 1)", x.change(1, 1), NONE);
    }

    static void promise17_noSuchFlow() {
        for (int f : NO_FLOWS_OF_THREE) {
            is("change(" + f + ", 0)", Edges.triangle().change(f, 0), NONE);
            is("change(" + f + ", 1)", Edges.triangle().change(f, 1), NONE);
        }
    }

    static void promise17_anotherWhat() {
        for (int what : Edges.WRONG_PARTS) {
            is("change(1, " + what + ")", Edges.triangle().change(1, what), NONE);
        }
    }

    static void promise17_noChange() {
        FlowMeters x = Edges.make(2, 0, 1, 1, 0, 0, 1);
        x.miss(0, 3);
        Edges.readAll(x, -2000, -2000, 0);
        for (int f = 0; f < 3; f++) {
            Edges.changeIs(x, f, 0, 1);
        }
        x.unread(2);
        x.read(1, 2000);
        Edges.changeIs(x, 0, 0, 1);
        Edges.changeIs(x, 1, 0, 1);
    }

    static void promise17_lowestTerms() {
        FlowMeters x = Edges.make(2, 0, 1, 0, 1);
        x.miss(0, 2);
        x.miss(1, 2);
        Edges.readAll(x, 3, 3);
        Edges.changeIs(x, 0, -3, 1);
        x.read(1, -4);
        Edges.changeIs(x, 0, 1, 2);
    }

    static void promise17_theGreatest() {
        FlowMeters x = greatest();
        Edges.changeIs(x, 0, -2000, 1);
        Edges.changeIs(x, 1, 2000, 1);
        x.miss(0, 4);
        Edges.changeIs(x, 0, -3200, 1);
        Edges.changeIs(x, 1, 800, 1);
    }

    // Promise 18: force.

    static void promise18_noSuchKnot() {
        for (int k : Edges.outside(0, 2)) {
            is("force(" + k + ", 0)", Edges.triangle().force(k, 0), NONE);
            is("force(" + k + ", 1)", Edges.triangle().force(k, 1), NONE);
        }
        for (int k = 2; k <= 6; k++) {
            is("force(" + k + ", 1) of " + k, Edges.make(k).force(k, 1), NONE);
            is("force(" + (k - 1) + ", 1) of " + k, Edges.make(k).force(k - 1, 1), 1);
        }
    }

    static void promise18_anotherWhat() {
        for (int what : Edges.WRONG_PARTS) {
            is("force(1, " + what + ")", Edges.triangle().force(1, what), NONE);
        }
    }

    static void promise18_theLeastKnotOfThoseThatHangTogetherHasZero() {
        FlowMeters x = Edges.make(6, 0, 1, 3, 2, 4, 5);
        x.read(0, 6);
        x.read(1, 4);
        int[] due = {0, -6, 0, 4, 0, 0};
        for (int k = 0; k < 6; k++) {
            Edges.forceIs(x, k, due[k], 1);
        }
        x.flow(1, 3);
        x.read(3, 0);
        // Knots 0 to 3 hang together now: 2 has a force beside that of 3.
        Edges.forceIs(x, 1, -6, 1);
        Edges.forceIs(x, 3, -6, 1);
        Edges.forceIs(x, 2, -10, 1);
    }

    static void promise18_allKnotsOfAHeapAlike() {
        FlowMeters x = Edges.make(4, 0, 1, 3, 1);
        x.read(0, 5);
        Edges.forceIs(x, 1, -5, 1);
        Edges.forceIs(x, 3, -5, 1);
        Edges.forceIs(x, 2, 0, 1);
        FlowMeters y = Edges.make(4, 0, 3, 3, 1);
        y.read(1, 8);
        Edges.forceIs(y, 3, 0, 1);
        Edges.forceIs(y, 1, -8, 1);
    }

    static void promise18_lowestTermsBelowAboveZero() {
        FlowMeters x = Edges.make(2, 0, 1, 1, 0);
        x.miss(0, 4);
        x.miss(1, 4);
        Edges.readAll(x, 5, 1);
        Edges.forceIs(x, 1, -1, 2);
        x.read(1, 9);
        Edges.forceIs(x, 1, 1, 2);
        Edges.forceIs(x, 0, 0, 1);
    }

    static void promise18_noneRead() {
        FlowMeters x = row();
        for (int k = 0; k < 6; k++) {
            Edges.forceIs(x, k, 0, 1);
        }
    }

    // Promise 19: test.

    static void promise19_anotherWhat() {
        for (int what : Edges.WRONG_PARTS) {
            is("test(" + what + ")", Edges.triangle().test(what), NONE);
            is("test(" + what + ") of a new object", new FlowMeters().test(what), NONE);
        }
    }

    static void promise19_nothing() {
        Edges.testIs(new FlowMeters(), 0, 1);
        Edges.testIs(tenBesideOneAnother(), 0, 1);
        FlowMeters x = Edges.make(3, 0, 1, 1, 2, 2, 0);
        Edges.readAll(x, 2000, 2000, 2000);
        x.miss(0, 3);
        Edges.testIs(x, 0, 1);
        FlowMeters y = Edges.make(2, 0, 1, 0, 1);
        y.read(0, 2000);
        Edges.testIs(y, 0, 1);
    }

    static void promise19_lowestTerms() {
        FlowMeters x = Edges.make(2, 0, 1, 0, 1);
        x.miss(0, 2);
        x.miss(1, 2);
        Edges.readAll(x, 1, 0);
        Edges.testIs(x, 1, 4);
        Edges.readAll(x, 3, 5);
        Edges.testIs(x, 16, 1);
    }

    static void promise19_theGreatest() {
        FlowMeters x = tenBesideOneAnother();
        Edges.readAll(x, 2000, 2000, 2000, 2000, 2000, 2000, 2000, 2000, 2000, 2000);
        Edges.testIs(x, 40000000, 1);
        FlowMeters y = row(2000, -2000, 2000, -2000, 2000);
        Edges.testIs(y, 20000000, 1);
        for (int f = 0; f < 5; f++) {
            y.miss(f, 4);
        }
        Edges.testIs(y, 5000000, 1);
    }

    // Promise 20: round.

    static void promise20_noSuchFlow() {
        for (int f : Edges.outside(0, 1)) {
            FlowMeters x = Edges.make(2, 0, 1, 1, 0);
            is("round(" + f + ", 0)", x.round(f, 0), NONE);
            is("round(" + f + ", 1)", x.round(f, 1), NONE);
        }
    }

    static void promise20_noSuchI() {
        for (int i : Edges.outside(0, 1)) {
            is("round(0, " + i + ")", Edges.make(2, 0, 1, 1, 0).round(0, i), NONE);
        }
        FlowMeters x = Edges.make(6, 0, 1, 1, 2, 2, 3, 3, 4, 4, 5, 5, 0);
        for (int i : Edges.outside(0, 5)) {
            is("round(2, " + i + ") of six", x.round(2, i), NONE);
        }
        is("round(2, 5) of six", x.round(2, 5), 1);
    }

    static void promise20_theFirstIsItself() {
        FlowMeters x = tenBesideOneAnother();
        for (int f = 0; f < 10; f++) {
            Edges.roundIs(x, f, f, f == 0 ? 1 : 0);
        }
    }

    static void promise20_seen() {
        FlowMeters x = twoTriangles();
        is("round(6, 0) between two triangles", x.round(6, 0), NONE);
        x.read(0, 4);
        for (int i = 0; i < 3; i++) {
            is("round(0, " + i + ") of a read one", x.round(0, i), NONE);
            is("round(1, " + i + ") beside a read one", x.round(1, i), NONE);
        }
        Edges.roundIs(x, 3, 3, 4, 5);
    }

    static void promise20_asItIsDirected() {
        Edges.roundIs(Edges.make(3, 0, 1, 1, 2, 2, 0), 0, 0, 1, 2);
        Edges.roundIs(Edges.make(3, 1, 0, 1, 2, 2, 0), 0, 0, 2, 1);
        Edges.roundIs(Edges.make(3, 1, 0, 2, 1, 0, 2), 0, 0, 2, 1);
        Edges.roundIs(Edges.make(6, 0, 1, 2, 1, 2, 3, 4, 3, 4, 5, 0, 5), 1, 1, 0, 5, 4, 3, 2);
    }

    static void promise20_theFewest() {
        Edges.roundIs(Edges.make(3, 0, 1, 1, 2, 2, 0, 1, 0), 0, 0, 3);
        Edges.roundIs(Edges.make(5, 0, 1, 1, 2, 2, 3, 3, 0, 4, 1, 0, 4), 0, 0, 4, 5);
    }

    static void promise20_ofSeveralTheFirstInThatOrder() {
        // The other one, 0, 3, 1, would be the first by its least numbers.
        Edges.roundIs(Edges.make(4, 0, 1, 2, 0, 1, 3, 1, 2, 3, 0), 0, 0, 2, 4);
        Edges.roundIs(Edges.make(3, 0, 1, 2, 0, 2, 0, 1, 2, 1, 2), 0, 0, 3, 1);
    }

    static void promise20_throughUnreadOnesAlone() {
        FlowMeters x = Edges.make(3, 0, 1, 1, 0, 1, 2, 2, 0);
        Edges.roundIs(x, 0, 0, 1);
        x.read(1, 0);
        Edges.roundIs(x, 0, 0, 2, 3);
    }

    // Promise 21: spare.

    static void promise21_noSuchFlow() {
        for (int f : NO_FLOWS_OF_THREE) {
            is("spare(" + f + ")", Edges.triangle().spare(f), NONE);
        }
        is("spare(0) of a new object", new FlowMeters().spare(0), NONE);
    }

    static void promise21_unread() {
        FlowMeters x = Edges.make(3, 0, 1, 1, 2);
        is("spare(0)", x.spare(0), 0);
        x.read(1, 0);
        is("spare(0) beside a read one", x.spare(0), 0);
        is("spare(1)", x.spare(1), 1);
    }

    static void promise21_withinAHeap() {
        FlowMeters x = Edges.make(3, 0, 1, 1, 2, 2, 0);
        x.read(0, 3);
        is("spare(0) in a heap of all", x.spare(0), 0);
        x.read(1, 3);
        is("spare(0) between unlike heaps", x.spare(0), 1);
        is("spare(1) between unlike heaps", x.spare(1), 1);
        x.flow(1, 0);
        is("spare(0) beside an unread one", x.spare(0), 0);
    }

    // Promise 22: fall.

    static void promise22_notSpare() {
        FlowMeters x = Edges.make(2, 0, 1, 0, 1);
        for (int what = 0; what < 2; what++) {
            is("fall(0, " + what + ") of an unread one", x.fall(0, what), NONE);
        }
        x.read(0, 9);
        for (int what = 0; what < 2; what++) {
            is("fall(0, " + what + ") within a heap", x.fall(0, what), NONE);
            is("fall(1, " + what + ") of an unread one", x.fall(1, what), NONE);
        }
        x.read(1, -9);
        Edges.fallIs(x, 0, 0, 1);
    }

    static void promise22_noSuchFlow() {
        for (int f : NO_FLOWS_OF_THREE) {
            is("fall(" + f + ", 0)", Edges.triangle().fall(f, 0), NONE);
            is("fall(" + f + ", 1)", Edges.triangle().fall(f, 1), NONE);
        }
    }

    static void promise22_anotherWhat() {
        for (int what : Edges.WRONG_PARTS) {
            is("fall(1, " + what + ")", Edges.triangle().fall(1, what), NONE);
        }
    }

    static void promise22_noFall() {
        FlowMeters x = row(0, 5, 0);
        x.miss(1, 3);
        Edges.fallIs(x, 0, 0, 1);
        Edges.fallIs(x, 1, 25, 3);
        Edges.fallIs(x, 2, 0, 1);
    }

    static void promise22_lowestTerms() {
        FlowMeters x = Edges.triangle();
        Edges.fallIs(x, 0, 3, 2);
        Edges.fallIs(x, 1, 6, 1);
        x.miss(0, 2);
        x.miss(1, 2);
        x.miss(2, 2);
        Edges.fallIs(x, 0, 3, 4);
        Edges.fallIs(x, 1, 3, 1);
    }

    static void promise22_theGreatest() {
        FlowMeters x = greatest();
        Edges.fallIs(x, 0, 8000000, 1);
        Edges.fallIs(x, 1, 8000000, 1);
        FlowMeters y = tenBesideOneAnother();
        Edges.readAll(y, 2000, 2000, 2000, 2000, 2000, 2000, 2000, 2000, 2000, 2000);
        Edges.fallIs(y, 9, 40000000, 1);
    }

    // Promise 23: lie.

    static void promise23_notSpare() {
        FlowMeters x = Edges.make(2, 0, 1, 0, 1);
        for (int what = 0; what < 2; what++) {
            is("lie(0, " + what + ") of an unread one", x.lie(0, what), NONE);
        }
        x.read(0, 9);
        for (int what = 0; what < 2; what++) {
            is("lie(0, " + what + ") within a heap", x.lie(0, what), NONE);
            is("lie(1, " + what + ") of an unread one", x.lie(1, what), NONE);
        }
        x.read(1, -9);
        Edges.lieIs(x, 0, 0, 1);
    }

    static void promise23_noSuchFlow() {
        for (int f : NO_FLOWS_OF_THREE) {
            is("lie(" + f + ", 0)", Edges.triangle().lie(f, 0), NONE);
            is("lie(" + f + ", 1)", Edges.triangle().lie(f, 1), NONE);
        }
    }

    static void promise23_anotherWhat() {
        for (int what : Edges.WRONG_PARTS) {
            is("lie(1, " + what + ")", Edges.triangle().lie(1, what), NONE);
        }
    }

    static void promise23_noLie() {
        FlowMeters x = row(0, 5, -5);
        Edges.lieIs(x, 0, 0, 1);
        Edges.lieIs(x, 1, 5, 1);
        Edges.lieIs(x, 2, -5, 1);
    }

    static void promise23_lowestTermsBelowAboveZero() {
        FlowMeters x = Edges.triangle();
        x.miss(0, 2);
        x.miss(1, 2);
        x.miss(2, 2);
        Edges.lieIs(x, 0, -3, 2);
        Edges.lieIs(x, 1, 3, 1);
    }

    static void promise23_theGreatest() {
        FlowMeters x = greatest();
        Edges.lieIs(x, 0, 4000, 1);
        Edges.lieIs(x, 1, -4000, 1);
        FlowMeters y = tenBesideOneAnother();
        Edges.readAll(y, 2000, 2000, 2000, 2000, 2000, 2000, 2000, 2000, 2000, 2000);
        Edges.lieIs(y, 0, 20000, 1);
    }

    // Promise 24: rank.

    static void promise24_noSuchI() {
        for (int i : Edges.outside(0, 2)) {
            is("rank(" + i + ")", Edges.triangle().rank(i), NONE);
        }
    }

    static void promise24_noneIsSpare() {
        is("rank(0) of a new object", new FlowMeters().rank(0), NONE);
        FlowMeters x = tenBesideOneAnother();
        is("rank(0) of unread ones", x.rank(0), NONE);
        Edges.readAll(x, 1, 2, 3, 4, 5, 6, 7, 8, 9);
        is("rank(0) of meters within a heap", x.rank(0), NONE);
        x.read(9, 10);
        is("rank(9) of ten", x.rank(9), 9);
        is("rank(10) of ten", x.rank(10), NONE);
    }

    static void promise24_ofLikeOnesTheLesserNumber() {
        FlowMeters x = tenBesideOneAnother();
        Edges.readAll(x, 5, -5, 7, 1, 0, 2000, 2, 3, 4, -2000);
        Edges.rankIs(x, 0, 1, 2, 3, 4, 5, 6, 7, 8, 9);
        Edges.rankIs(row(2, 3, -2, 3, 1), 1, 3, 0, 2, 4);
        Edges.rankIs(row(0, 0, 0, 0, 0), 0, 1, 2, 3, 4);
    }

    static void promise24_theGreatestFirst() {
        Edges.rankIs(row(1, 2, 3, 4, 5), 4, 3, 2, 1, 0);
        Edges.rankIs(row(0, -2000, 1999, 0, 2000), 1, 4, 2, 0, 3);
        // Flow 0 lies more, but flow 1 has the lesser miss.
        FlowMeters x = row(3, 2);
        x.miss(0, 3);
        Edges.rankIs(x, 1, 0);
    }

    static void promise24_thoseThatAreNotSpareAreLeftOut() {
        FlowMeters x = Edges.make(4, 0, 1, 0, 1, 1, 2, 2, 3);
        x.read(1, 1000);
        x.read(3, 5);
        Edges.rankIs(x, 3);
        x.read(2, 6);
        Edges.rankIs(x, 2, 3);
    }

    // Promise 25: alike.

    static void promise25_theSame() {
        FlowMeters x = Edges.make(2, 0, 1, 0, 1);
        Edges.readAll(x, 1, 1);
        no("alike(0, 0)", x.alike(0, 0));
        no("alike(1, 1)", x.alike(1, 1));
        yes("alike(0, 1)", x.alike(0, 1));
    }

    static void promise25_noSuchFlow() {
        FlowMeters x = Edges.make(2, 0, 1, 1, 0, 0, 1);
        Edges.readAll(x, 1, 1, 1);
        for (int f : NO_FLOWS_OF_THREE) {
            no("alike(0, " + f + ")", x.alike(0, f));
            no("alike(" + f + ", 0)", x.alike(f, 0));
            no("alike(" + f + ", " + f + ")", x.alike(f, f));
        }
        no("alike(0, 1) of a new object", new FlowMeters().alike(0, 1));
    }

    static void promise25_notBothSpare() {
        FlowMeters x = Edges.make(2, 0, 1, 1, 0, 0, 1);
        no("alike(0, 1) of unread ones", x.alike(0, 1));
        x.read(0, 1);
        no("alike(0, 1): one is unread", x.alike(0, 1));
        no("alike(1, 0): one is unread", x.alike(1, 0));
        x.read(1, 1);
        no("alike(0, 1) within a heap", x.alike(0, 1));
        x.read(2, 1);
        yes("alike(0, 1)", x.alike(0, 1));
        // Flow 0 is within a heap, flow 2 leads out of it.
        FlowMeters y = Edges.make(3, 0, 1, 0, 1, 1, 2);
        y.read(0, 1);
        y.read(2, 1);
        no("alike(0, 2)", y.alike(0, 2));
        no("alike(2, 0)", y.alike(2, 0));
    }

    static void promise25_betweenTwoKnots() {
        for (int turned = 0; turned < 2; turned++) {
            FlowMeters x = Edges.make(4, 2, 3, 3 - turned, 2 + turned, 1, 2);
            Edges.readAll(x, 1, 2000, 3);
            yes("alike(0, 1)", x.alike(0, 1));
            yes("alike(1, 0)", x.alike(1, 0));
            no("alike(0, 2): in no round", x.alike(0, 2));
        }
    }

    static void promise25_throughUnreadOnes() {
        FlowMeters x = Edges.make(6, 0, 1, 1, 2, 2, 3, 3, 4, 4, 5, 5, 0);
        x.read(1, 0);
        x.read(4, 0);
        yes("alike(1, 4)", x.alike(1, 4));
        yes("alike(4, 1)", x.alike(4, 1));
        x.read(0, 0);
        no("alike(1, 4): a third one is read", x.alike(1, 4));
        no("alike(0, 1): a third one is read", x.alike(0, 1));
    }

    static void promise25_oneHeapInCommon() {
        FlowMeters x = Edges.make(4, 0, 1, 2, 3, 0, 2, 1, 2);
        x.read(2, 5);
        x.read(3, 5);
        yes("alike(2, 3) by flow 0", x.alike(2, 3));
        x.read(0, 5);
        no("alike(2, 3): flow 0 is read, too", x.alike(2, 3));
        no("alike(0, 3)", x.alike(0, 3));
        no("alike(2, 0)", x.alike(2, 0));
    }

    // Promise 26: least.

    static void promise26_anotherWhat() {
        for (int what : Edges.WRONG_PARTS) {
            is("least(false, " + what + ")", Edges.triangle().least(false, what), NONE);
            is("least(true, " + what + ")", Edges.triangle().least(true, what), NONE);
            is("least(true, " + what + ") of a new object", new FlowMeters().least(true, what), NONE);
        }
    }

    static void promise26_theSetWithoutFlows() {
        Edges.leastIs(new FlowMeters(), false, 0, 0);
        Edges.leastIs(new FlowMeters(), true, 0, 0);
        Edges.leastIs(row(), false, 0, 0);
        Edges.leastIs(row(), true, 0, 0);
        Edges.leastIs(row(1, 2, 3, 4, 5), true, 0, 0);
        FlowMeters x = tenBesideOneAnother();
        Edges.readAll(x, 0, 0, 0, 0, 0, 0, 0, 0, 0, 0);
        Edges.leastIs(x, false, 0, 0);
        Edges.leastIs(x, true, 0, 0);
        x.unread(9);
        Edges.leastIs(x, false, 0, 0);
        Edges.leastIs(x, true, 1, 512);
    }

    static void promise26_allTen() {
        FlowMeters x = tenBesideOneAnother();
        for (int f = 0; f < 10; f++) {
            x.price(f, 99);
        }
        Edges.leastIs(x, false, 891, 511);
        Edges.leastIs(x, true, 990, 1023);
        x.price(9, 98);
        Edges.leastIs(x, false, 890, 767);
        for (int f = 0; f < 10; f++) {
            x.price(f, 0);
        }
        Edges.leastIs(x, false, 0, 511);
        Edges.leastIs(x, true, 0, 1023);
    }

    static void promise26_pricesOfZero() {
        // Flow 0 is in no round: to buy it would cost nothing, but it makes the number greater.
        FlowMeters x = Edges.make(3, 1, 2, 0, 1, 1, 0);
        x.price(0, 0);
        Edges.leastIs(x, false, 1, 2);
        Edges.leastIs(x, true, 2, 6);
        x.price(2, 0);
        Edges.leastIs(x, false, 0, 4);
        x.price(1, 0);
        Edges.leastIs(x, false, 0, 2);
    }

    static void promise26_ofSeveralTheLeastNumber() {
        FlowMeters x = Edges.make(3, 0, 1, 1, 2, 2, 0);
        Edges.leastIs(x, false, 1, 1);
        Edges.leastIs(x, true, 2, 3);
        x.price(0, 2);
        Edges.leastIs(x, false, 1, 2);
        Edges.leastIs(x, true, 2, 6);
        FlowMeters y = twoTriangles();
        Edges.leastIs(y, false, 2, 9);
        Edges.leastIs(y, true, 4, 27);
    }

    static void promise26_likeSumsOfUnlikeManyFlows() {
        // A round of four with a flow across: that one alone may stay unread, or two of the round.
        FlowMeters x = Edges.make(4, 0, 1, 1, 2, 2, 3, 3, 0, 0, 2);
        x.price(4, 2);
        Edges.leastIs(x, true, 4, 15);
        FlowMeters y = Edges.make(4, 0, 2, 0, 1, 1, 2, 2, 3, 3, 0);
        y.price(0, 2);
        Edges.leastIs(y, true, 4, 11);
    }

    static void promise26_readOnesAreNotBought() {
        FlowMeters x = Edges.make(2, 0, 1, 0, 1, 0, 1);
        x.price(0, 0);
        x.price(1, 99);
        x.price(2, 99);
        x.read(0, 3);
        Edges.leastIs(x, false, 99, 2);
        Edges.leastIs(x, true, 198, 6);
        x.read(1, 3);
        Edges.leastIs(x, false, 0, 0);
        Edges.leastIs(x, true, 99, 4);
    }

    static void promise26_surelyWithAnyOneUnreadAgain() {
        // With flow 0 read all is seen; were it unread again, the round would not be.
        FlowMeters x = Edges.make(3, 0, 1, 1, 2, 2, 0);
        x.read(0, 3);
        Edges.leastIs(x, false, 0, 0);
        Edges.leastIs(x, true, 1, 2);
        x.read(1, 3);
        Edges.leastIs(x, true, 0, 0);
    }
}
