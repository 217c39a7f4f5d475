import java.util.function.IntUnaryOperator;
import java.util.function.ToIntFunction;

/** The boundary cases of each promise: the last value taken, the first refused, and that nothing changes then. */
public final class PromisesBoundaryTest {
    private static final int NONE = -1, UNKNOWN = -2, OUTSIDE = -3, ROOM = -5;
    private static final int CLASS = 0, INTERFACE = 1, EXCEPTION = 2;
    private static final int EXACT = 0, UP_TO = 1, FROM = 2, ANY = 3;
    private static final int VOID = 8, NULL = 9, OBJECT = 10;
    private static final int LEAST = Integer.MIN_VALUE, MOST = Integer.MAX_VALUE;

    private static void due(String call, long got, long want) {
        Check.due(call, got, want);
    }

    private static void due(String call, String got, String want) {
        Check.due(call, got, want);
    }

    private static void refused(String call, Calls x, ToIntFunction<Calls> asked, int want) {
        String state = x.state();
        String taken = x.draftAndTape();
        due(call, asked.applyAsInt(x), want);
        due(call + ": what is there behind it", x.state(), state);
        due(call + ": THE DRAFT and THE TAPE", x.draftAndTape(), taken);
    }

    /** A refused make(): THE DRAFT is taken, and THE TAPE is not. */
    private static void refusedMake(String call, Calls x, int declaration, int outer, int want) {
        String state = x.state();
        int tape = x.count(3);
        due(call, x.make(declaration, outer), want);
        due(call + ": what is there behind it", x.state(), state);
        due(call + ": THE DRAFT", x.count(2), 0);
        due(call + ": THE TAPE", x.count(3), tape);
    }

    /** A refused read(): THE TAPE is taken, and THE DRAFT is not. */
    private static void refusedRead(String text, Calls x, int want) {
        x.tape(text);
        String state = x.state();
        int draft = x.count(2);
        due("read of " + text, x.read(), want);
        due("read of " + text + ": what is there behind it", x.state(), state);
        due("read of " + text + ": THE TAPE", x.count(3), 0);
        due("read of " + text + ": THE DRAFT", x.count(2), draft);
    }

    /** A call with numbers that are none of a DECLARATION, a NODE, a place, when there are so many. */
    private static void unknown(String call, Calls x, int number, IntUnaryOperator asked) {
        String state = x.state();
        String taken = x.draftAndTape();
        for (int none : new int[] {LEAST, -101, -10, -5, -3, -2, -1, number, number + 1, 1 << 16, 1 << 30, MOST}) {
            due(call + " of " + none, asked.applyAsInt(none), UNKNOWN);
        }
        due(call + ": what is there behind it", x.state(), state);
        due(call + ": THE DRAFT and THE TAPE", x.draftAndTape(), taken);
    }

    /** NODES of busy() and of full(): C<+b0,?>, D, C<+b0,?>.E<D>. */
    private static final int OUTER = 15, D = 16, INNER = 17;

    /** Beside the world of Calls, an ARGUMENT in THE DRAFT, a TEXT on THE TAPE, and one on OUT. */
    private static Calls busy() {
        Calls x = Calls.world();
        x.print(x.read("C<+b0,?>.E<D>"));
        x.argument(FROM, OBJECT);
        x.tape("B<D>");
        return x;
    }

    private static Calls full() {
        Calls x = Calls.world();
        x.read("C<+b0,?>.E<D>");
        x.read("B<D>");
        x.fill(200);
        return x;
    }

    private static void newObject() {
        Calls x = new Calls();
        int[] counts = {1, 11, 0, 0, 0, 0, UNKNOWN};
        for (int what = 0; what < counts.length; what++) {
            due("count " + what, x.count(what), counts[what]);
        }
        due("PARENTS of OBJECT", x.count(20), 0);
        due("PARENTS of none", x.count(21), UNKNOWN);
        due("the last NODE", x.about(10, 1), 0);
        due("no NODE", x.about(11, 1), UNKNOWN);
        due("OUT is empty", x.out(0), NONE);
        due("THE TAPE is empty", x.read(), -10);
        due("THE DRAFT is empty", x.make(0, NONE), OBJECT);
        Calls other = new Calls();
        due("one object", x.declare(CLASS, 3, NONE), 1);
        due("is not another", other.count(0), 1);
    }

    private static void declareTakes() {
        Calls x = new Calls();
        due("the least of each", x.declare(0, 0, NONE), 1);
        due("the least outer", x.declare(1, 3, 0), 2);
        due("the most of each", x.declare(2, 0, 2), 3);
        due("NODES", x.count(1), 14);
    }

    private static void declareRefuses() {
        Calls x = busy();
        for (int outer : new int[] {LEAST, -3, -2, 6, 7, 12, MOST}) {
            refused("outer " + outer, x, y -> y.declare(CLASS, 0, outer), UNKNOWN);
        }
        for (int odd : new int[] {LEAST, -1, 4, 1 << 30, MOST}) {
            refused("kind " + odd, x, y -> y.declare(odd, 0, NONE), OUTSIDE);
            refused("PARAMETERS " + odd, x, y -> y.declare(CLASS, odd, 0), OUTSIDE);
        }
        refused("kind 3", x, y -> y.declare(3, 0, NONE), OUTSIDE);
        for (int parameters = 1; parameters <= 3; parameters++) {
            int given = parameters;
            refused("an EXCEPTION with " + given, x, y -> y.declare(EXCEPTION, given, NONE), -101);
        }
    }

    private static void declareRefusesInOrder() {
        Calls x = busy();
        refused("UNKNOWN ahead of OUTSIDE", x, y -> y.declare(3, 4, 6), UNKNOWN);
        refused("UNKNOWN ahead of RULE 1", x, y -> y.declare(EXCEPTION, 1, 6), UNKNOWN);
        refused("OUTSIDE ahead of RULE 1", x, y -> y.declare(EXCEPTION, 4, NONE), OUTSIDE);
        Calls all = new Calls();
        for (int i = 1; i < 12; i++) {
            all.declare(CLASS, 0, NONE);
        }
        refused("UNKNOWN ahead of ROOM", all, y -> y.declare(CLASS, 0, 12), UNKNOWN);
        refused("OUTSIDE ahead of ROOM", all, y -> y.declare(3, 0, NONE), OUTSIDE);
        refused("RULE 1 ahead of ROOM", all, y -> y.declare(EXCEPTION, 1, NONE), -101);
        refused("ROOM", all, y -> y.declare(CLASS, 0, 11), ROOM);
        Calls nodes = full();
        refused("RULE 1 ahead of ROOM for NODES", nodes, y -> y.declare(EXCEPTION, 1, NONE), -101);
        refused("ROOM for NODES", nodes, y -> y.declare(CLASS, 1, NONE), ROOM);
        due("no NODES are needed", nodes.declare(EXCEPTION, 0, 5), 6);
    }

    private static void variable() {
        Calls x = busy();
        unknown("a DECLARATION", x, 6, i -> x.variable(i, 0));
        unknown("a place of one", x, 1, i -> x.variable(1, i));
        unknown("a place of two", x, 2, i -> x.variable(2, i));
        unknown("a place of none", x, 0, i -> x.variable(3, i));
        unknown("a place of OBJECT", x, 0, i -> x.variable(0, i));
        due("first", x.variable(1, 0), 11);
        due("last of two", x.variable(2, 1), 13);
        Calls full = full();
        due("needs no room", full.variable(4, 0), 14);
    }

    private static void boundUnknown() {
        Calls x = busy();
        unknown("a DECLARATION", x, 6, i -> x.bound(i, 0, OBJECT));
        unknown("a place", x, 2, i -> x.bound(2, i, OBJECT));
        unknown("a place of OBJECT", x, 0, i -> x.bound(0, i, OBJECT));
        int nodes = x.count(1);
        unknown("a NODE", x, nodes, i -> x.bound(2, 0, i));
        due("the last NODE", x.bound(2, 0, nodes - 1), -102);
    }

    private static void boundRefusesInOrder() {
        Calls x = Calls.world();
        int d = x.read("D");
        int b = x.read("B<A>");
        int foreign = x.read("B<b0>");
        due("c0 by c1", x.bound(2, 0, 13), 1);
        refused("RULE 2 ahead of 4", x, y -> y.bound(2, 0, foreign), -102);
        refused("RULE 2 ahead of 4, a VARIABLE", x, y -> y.bound(2, 0, 11), -102);
        refused("RULE 4 ahead of 5", x, y -> y.bound(2, 0, d), -104);
        refused("RULE 4 ahead of 6", x, y -> y.bound(2, 0, 12), -104);
        due("c1 by D", x.bound(2, 1, d), 1);
        refused("RULE 2 ahead of 5", x, y -> y.bound(2, 1, 4), -102);
        refused("RULE 4 ahead of 6, this is one", x, y -> y.bound(2, 1, 13), -104);
        refused("RULE 5", x, y -> y.bound(2, 1, d), -105);
        due("second", x.bound(2, 1, b), 2);
        refused("RULE 5 of a third", x, y -> y.bound(2, 1, d), -105);
        due("third", x.bound(2, 1, b), 3);
        refused("UNKNOWN ahead of ROOM", x, y -> y.bound(2, 1, 199), UNKNOWN);
        refused("RULE 2 ahead of ROOM", x, y -> y.bound(2, 1, foreign), -102);
        refused("RULE 4 ahead of ROOM", x, y -> y.bound(2, 1, 12), -104);
        refused("ROOM", x, y -> y.bound(2, 1, b), ROOM);
    }

    private static void boundComesToItself() {
        Calls x = new Calls();
        due("B", x.declare(CLASS, 3, NONE), 1);
        for (int place = 0; place < 3; place++) {
            int at = place;
            refused("itself", x, y -> y.bound(1, at, 11 + at), -106);
        }
        due("b0 by b2", x.bound(1, 0, 13), 1);
        refused("by one other", x, y -> y.bound(1, 2, 11), -106);
        due("b1 by b0", x.bound(1, 1, 11), 1);
        refused("by two others", x, y -> y.bound(1, 2, 12), -106);
        due("BOUNDS", x.count(6), 2);
        due("by an ARGUMENT it may", x.bound(1, 2, x.read("B<b0,b1,b2>")), 1);
        due("BOUNDS", x.count(6), 3);
    }

    private static void boundsRefusedAreNone() {
        Calls x = Calls.world();
        int d = x.read("D");
        x.bound(2, 0, 4);
        x.bound(2, 0, 12);
        due("no BOUND", x.count(7), 0);
        due("ERASED as without any", x.erased(12), OBJECT);
        due("first", x.bound(2, 0, d), 1);
        x.bound(2, 0, OBJECT);
        x.bound(2, 0, 13);
        due("one BOUND", x.count(7), 1);
        due("ERASED by the first", x.erased(12), d);
    }

    private static void parentUnknown() {
        Calls x = busy();
        unknown("a DECLARATION", x, 6, i -> x.parent(i, OBJECT));
        refused("OBJECT", x, y -> y.parent(0, OBJECT), UNKNOWN);
        refused("OBJECT, and no PARENT as told", x, y -> y.parent(0, 4), UNKNOWN);
        int nodes = x.count(1);
        unknown("a NODE", x, nodes, i -> x.parent(3, i));
        due("the last NODE", x.parent(5, nodes - 1), -102);
    }

    private static void parentRefusesInOrder() {
        Calls x = Calls.world();
        due("G", x.declare(INTERFACE, 1, NONE), 6);
        due("H", x.declare(CLASS, 1, NONE), 7);
        int d = x.read("D");
        int b = x.read("B<A>");
        int foreign = x.read("G<b0>");
        int h = x.read("H<A>");
        int g = x.read("G<A>");
        refused("RULE 2 ahead of 7", x, y -> y.parent(6, foreign), -102);
        refused("RULE 7 ahead of 8", x, y -> y.parent(6, h), -107);
        refused("RULE 7, the same", x, y -> y.parent(6, g), -107);
        refused("RULE 7, a greater", x, y -> y.parent(5, g), -107);
        due("the next lesser", x.parent(7, g), 1);
        refused("RULE 8 of an INTERFACE's first", x, y -> y.parent(6, d), -108);
        due("an INTERFACE's first", x.parent(6, b), 1);
        refused("RULE 8 of an INTERFACE's second", x, y -> y.parent(6, OBJECT), -108);
        refused("RULE 8 of another's second", x, y -> y.parent(7, d), -108);
        due("second", x.parent(7, b), 2);
        refused("RULE 8 of another's third", x, y -> y.parent(7, OBJECT), -108);
        due("third", x.parent(7, b), 3);
        refused("UNKNOWN ahead of ROOM", x, y -> y.parent(7, 199), UNKNOWN);
        refused("RULE 2 ahead of ROOM", x, y -> y.parent(7, foreign), -102);
        refused("RULE 7 ahead of ROOM", x, y -> y.parent(7, h), -107);
        refused("ROOM", x, y -> y.parent(7, b), ROOM);
        due("PARENTS", x.count(27), 3);
    }

    private static void parentsRefusedAreNone() {
        Calls x = Calls.world();
        due("G", x.declare(CLASS, 1, NONE), 6);
        int b = x.read("B<A>");
        int g = x.read("G<A>");
        x.parent(6, x.read("G"));
        x.parent(6, x.read("B<b0>"));
        due("no SUPER", x.above(g, 1), NONE);
        due("PARENT", x.parent(6, x.read("B<g0>")), 1);
        x.parent(6, x.read("D"));
        due("SUPER", x.above(g, 1), b);
        due("no SUPER by a refused one", x.above(g, 3), NONE);
    }

    private static void argument() {
        Calls x = busy();
        int nodes = x.count(1);
        for (int wild = EXACT; wild <= FROM; wild++) {
            int given = wild;
            unknown("a NODE, WILD " + wild, x, nodes, i -> x.argument(given, i));
            for (int node = 0; node <= NULL; node++) {
                due("RULE 9 of " + node, x.argument(given, node), -109);
            }
        }
        due("none of these came", x.count(2), 1);
        for (int wild : new int[] {LEAST, -2, -1, 4, 5, MOST}) {
            refused("WILD " + wild, x, y -> y.argument(wild, OBJECT), OUTSIDE);
            refused("UNKNOWN ahead of WILD " + wild, x, y -> y.argument(wild, nodes), UNKNOWN);
            refused("WILD " + wild + " ahead of RULE 9", x, y -> y.argument(wild, VOID), OUTSIDE);
        }
        due("the last NODE", x.argument(UP_TO, nodes - 1), 2);
        due("ANY of no NODE", x.argument(ANY, MOST), 3);
        refused("UNKNOWN ahead of ROOM", x, y -> y.argument(EXACT, nodes), UNKNOWN);
        refused("OUTSIDE ahead of ROOM", x, y -> y.argument(4, OBJECT), OUTSIDE);
        refused("RULE 9 ahead of ROOM", x, y -> y.argument(FROM, 0), -109);
        refused("ROOM", x, y -> y.argument(EXACT, OBJECT), ROOM);
        refused("ROOM for ANY", x, y -> y.argument(ANY, LEAST), ROOM);
    }

    private static void anyLooksAtNoNode() {
        Calls x = Calls.world();
        int[] nodes = {LEAST, -1, 0, VOID, NULL, OBJECT, 200, MOST};
        int any = x.read("B<?>");
        for (int node : nodes) {
            due("ANY", x.argument(ANY, node), 1);
            due("one and the same", x.make(1, NONE), any);
        }
        due("its NODE", x.about(any, 9), NONE);
    }

    private static void makeUnknown() {
        Calls x = busy();
        for (int none : new int[] {LEAST, -2, -1, 6, 12, MOST}) {
            x.argument(EXACT, OBJECT);
            refusedMake("a DECLARATION", x, none, NONE, UNKNOWN);
        }
        for (int none : new int[] {LEAST, -3, -2, x.count(1), 200, MOST}) {
            x.argument(EXACT, OBJECT);
            refusedMake("an OUTER TYPE", x, 4, none, UNKNOWN);
            refusedMake("an OUTER TYPE of none", x, 3, none, UNKNOWN);
        }
    }

    private static void makeRefusesInOrder() {
        Calls x = Calls.world();
        int raw = x.read("C");
        int outer = x.read("C<A,A>");
        due("BOUND", x.bound(4, 0, x.read("D")), 1);
        x.argument(EXACT, OBJECT);
        x.argument(EXACT, OBJECT);
        refusedMake("UNKNOWN ahead of RULE 10", x, 6, NONE, UNKNOWN);
        x.argument(EXACT, OBJECT);
        x.argument(EXACT, OBJECT);
        refusedMake("RULE 10 ahead of 11", x, 4, NONE, -110);
        x.argument(ANY, 0);
        x.argument(ANY, 0);
        refusedMake("RULE 10 ahead of 12", x, 4, raw, -110);
        x.argument(EXACT, OBJECT);
        refusedMake("RULE 11 ahead of 12: the OUTER TYPE is RAW and another's", x, 4, x.read("B"), -111);
        x.argument(EXACT, OBJECT);
        refusedMake("RULE 11 ahead of 13", x, 4, NONE, -111);
        x.argument(EXACT, OBJECT);
        refusedMake("RULE 12 ahead of 13", x, 4, raw, -112);
        x.argument(EXACT, OBJECT);
        refusedMake("RULE 13", x, 4, outer, -113);
        x.argument(EXACT, x.read("D"));
        due("well", x.text(x.make(4, outer)), "C<A,A>.E<D>");
        int made = x.read("C<A,A>.E<D>");
        x.fill(200);
        x.argument(EXACT, OBJECT);
        refusedMake("RULE 13 ahead of ROOM", x, 4, outer, -113);
        x.argument(ANY, 0);
        refusedMake("RULE 12 ahead of ROOM", x, 4, raw, -112);
        refusedMake("RULE 11 ahead of ROOM", x, 3, outer, -111);
        x.argument(ANY, 0);
        refusedMake("RULE 10 ahead of ROOM", x, 3, NONE, -110);
        x.argument(ANY, 0);
        refusedMake("ROOM", x, 4, outer, ROOM);
        x.argument(EXACT, x.read("D"));
        due("what is there", x.make(4, outer), made);
    }

    private static void makeOuterTypes() {
        Calls x = Calls.world();
        refusedMake("one too many", x, 3, OBJECT, -111);
        refusedMake("one too many, its own", x, 3, x.read("D"), -111);
        refusedMake("one too many of OBJECT", x, 0, OBJECT, -111);
        refusedMake("too few", x, 4, NONE, -111);
        for (String s : new String[] {"A", "D", "C.E", "C<A,A>[]", "c0", "4", "8", "9"}) {
            refusedMake("not one of its OUTER DECLARATION: " + s, x, 4, x.read(s), -111);
        }
        refusedMake("the OUTER one's OUTER one", x, 5, x.read("C"), -111);
        due("RAW in RAW", x.text(x.make(4, x.read("C"))), "C.E");
        due("RAW in another", x.text(x.make(4, x.read("C<A,?>"))), "C<A,?>.E");
        due("no PARAMETERS in RAW", x.text(x.make(5, x.read("C<A,?>.E"))), "C<A,?>.E.F");
        x.argument(ANY, 0);
        refusedMake("ARGUMENTS in RAW", x, 4, x.read("C"), -112);
        due("G, in F", x.declare(CLASS, 1, 5), 6);
        x.argument(ANY, 0);
        refusedMake("ARGUMENTS in what is RAW by its OUTER TYPE", x, 6, x.read("C.E.F"), -112);
    }

    private static void makeTakesTheDraftOnce() {
        Calls x = busy();
        due("taken", x.text(x.make(1, NONE)), "B<-A>");
        due("none is left", x.text(x.make(1, NONE)), "B");
        due("THE TAPE is still there", x.text(x.read()), "B<D>");
        for (int i = 1; i <= 3; i++) {
            due("THE DRAFT has room again", x.argument(ANY, 0), i);
        }
    }

    private static void makeLooksAtEachBound() {
        Calls x = new Calls();
        due("B", x.declare(INTERFACE, 0, NONE), 1);
        due("C", x.declare(INTERFACE, 0, NONE), 2);
        due("D", x.declare(CLASS, 0, NONE), 3);
        due("E", x.declare(CLASS, 3, NONE), 4);
        int b = x.read("B");
        int c = x.read("C");
        int d = x.read("D");
        due("PARENT", x.parent(3, b), 1);
        due("third place's first", x.bound(4, 2, OBJECT), 1);
        due("second", x.bound(4, 2, b), 2);
        due("third", x.bound(4, 2, c), 3);
        refused("below two of three", x, y -> three(y, EXACT, d), -113);
        due("UP TO is not looked at", x.about(three(x, UP_TO, d), 8), UP_TO);
        due("FROM is not looked at", x.about(three(x, FROM, d), 8), FROM);
        due("PARENT", x.parent(3, c), 2);
        due("below all", x.about(three(x, EXACT, d), 11), d);
        due("RAW is not looked at", x.text(x.make(4, NONE)), "E");
    }

    private static int three(Calls x, int wild, int node) {
        x.argument(ANY, 0);
        x.argument(ANY, 0);
        x.argument(wild, node);
        return x.make(4, NONE);
    }

    private static void array() {
        Calls x = busy();
        int nodes = x.count(1);
        unknown("a NODE", x, nodes, x::array);
        refused("RULE 14 of VOID", x, y -> y.array(VOID), -114);
        refused("RULE 14 of NULL", x, y -> y.array(NULL), -114);
        due("the last primitive", x.array(7), nodes);
        due("the first", x.array(0), nodes + 1);
        due("behind NULL", x.array(OBJECT), nodes + 2);
        due("the last NODE", x.array(nodes + 2), nodes + 3);
        Calls full = full();
        refused("RULE 14 ahead of ROOM", full, y -> y.array(VOID), -114);
        refused("UNKNOWN ahead of ROOM", full, y -> y.array(200), UNKNOWN);
        refused("ROOM", full, y -> y.array(OBJECT), ROOM);
    }

    private static void facts(Calls x, int node, int... facts) {
        for (int what = 0; what <= 12; what++) {
            due("about " + node + ", " + what, x.about(node, what), facts[what]);
        }
    }

    private static void about() {
        Calls x = busy();
        int nodes = x.count(1);
        unknown("a NODE", x, nodes, i -> x.about(i, 0));
        unknown("a NODE, the last what", x, nodes, i -> x.about(i, 12));
        unknown("a what", x, 13, i -> x.about(OBJECT, i));
        unknown("a what of a primitive", x, 13, i -> x.about(0, i));
        due("the last NODE", x.about(nodes - 1, 0), 5);
        due("the first NODE", x.about(0, 0), 0);
        Calls y = new Calls();
        due("B", y.declare(CLASS, 3, NONE), 1);
        int node = y.read("B<A,+b1,-b2>");
        facts(y, node, 5, 1, NONE, NONE, NONE, 3, EXACT, UP_TO, FROM, OBJECT, 12, 13, 0);
        facts(y, 0, 0, NONE, NONE, NONE, NONE, 0, NONE, NONE, NONE, NONE, NONE, NONE, 0);
        facts(y, VOID, 1, NONE, NONE, NONE, NONE, 0, NONE, NONE, NONE, NONE, NONE, NONE, 0);
        facts(y, NULL, 2, NONE, NONE, NONE, NONE, 0, NONE, NONE, NONE, NONE, NONE, NONE, 0);
        facts(y, 13, 3, 1, 2, NONE, NONE, 0, NONE, NONE, NONE, NONE, NONE, NONE, 0);
        facts(y, y.array(node), 4, NONE, NONE, node, NONE, 0, NONE, NONE, NONE, NONE, NONE, NONE, 0);
        facts(x, INNER, 5, 4, NONE, NONE, OUTER, 1, EXACT, NONE, NONE, D, NONE, NONE, 0);
        int any = y.read("B<?,?,?>");
        for (int i = 0; i < 3; i++) {
            due("ANY's WILD", y.about(any, 6 + i), ANY);
            due("ANY's NODE", y.about(any, 9 + i), NONE);
        }
        int raw = y.read("B");
        for (int what = 6; what < 12; what++) {
            due("no ARGUMENT, " + what, y.about(raw, what), NONE);
        }
    }

    private static void below() {
        Calls x = busy();
        int nodes = x.count(1);
        unknown("a", x, nodes, i -> x.below(i, OBJECT));
        unknown("b", x, nodes, i -> x.below(OBJECT, i));
        unknown("both", x, nodes, i -> x.below(i, i));
        for (int i = 0; i < nodes; i++) {
            due("each is below itself: " + i, x.below(i, i), 1);
        }
        due("nothing came", x.count(1), nodes);
    }

    private static void belowPrimitives() {
        Calls x = new Calls();
        String wider = "12 14 15 16 17 24 25 26 27 34 35 36 37 45 46 47 56 57 67";
        for (int a = 0; a <= OBJECT; a++) {
            for (int b = 0; b <= OBJECT; b++) {
                boolean is = a == b || wider.contains("" + a + b) && a < 10 && b < 10 || a == NULL && b == OBJECT;
                due("below of " + a + " and " + b, x.below(a, b), is ? 1 : 0);
            }
        }
    }

    private static void belowOfArraysOfPrimitives() {
        Calls x = new Calls();
        for (int i = 0; i < 8; i++) {
            due("array", x.array(i), 11 + i);
        }
        for (int a = 0; a < 8; a++) {
            for (int b = 0; b < 8; b++) {
                due("below of " + a + "[] and " + b + "[]", x.below(11 + a, 11 + b), a == b ? 1 : 0);
            }
            due("below of an ARRAY and OBJECT", x.below(11 + a, OBJECT), 1);
            due("below of NULL and an ARRAY", x.below(NULL, 11 + a), 1);
            due("below of an ARRAY and NULL", x.below(11 + a, NULL), 0);
            due("below of an ARRAY and its TYPE", x.below(11 + a, a), 0);
            due("below of a TYPE and its ARRAY", x.below(a, 11 + a), 0);
        }
    }

    private static void erased() {
        Calls x = busy();
        int nodes = x.count(1);
        unknown("a NODE", x, nodes, x::erased);
        for (int i = 0; i <= OBJECT; i++) {
            due("stays: " + i, x.erased(i), i);
        }
        due("nothing came", x.count(1), nodes);
        due("the last NODE", x.erased(nodes - 1), nodes + 1);
        Calls full = full();
        due("what stays needs no room", full.erased(4), 4);
        refused("UNKNOWN ahead of ROOM", full, y -> y.erased(200), UNKNOWN);
        refused("ROOM", full, y -> y.erased(INNER), ROOM);
    }

    private static void whole() {
        Calls x = busy();
        int nodes = x.count(1);
        unknown("a NODE", x, nodes, x::whole);
        for (int i = 0; i <= OBJECT; i++) {
            due("whole: " + i, x.whole(i), 1);
        }
        due("a VARIABLE", x.whole(11), 0);
        due("the last NODE", x.whole(nodes - 1), 0);
        due("nothing came", x.count(1), nodes);
        Calls y = new Calls();
        due("B", y.declare(CLASS, 3, NONE), 1);
        String[] wholes = {"B", "B<?,?,?>", "B<?,?,?>[][]", "4[][]", "A[]"};
        for (String s : wholes) {
            due("whole: " + s, y.whole(y.read(s)), 1);
        }
        String[] others = {"B<A,?,?>", "B<?,+A,?>", "B<?,?,-A>", "B<?,?,A>[]", "b2", "b0[]"};
        for (String s : others) {
            due("not whole: " + s, y.whole(y.read(s)), 0);
        }
    }

    private static void above() {
        Calls x = busy();
        int nodes = x.count(1);
        unknown("a NODE", x, nodes, i -> x.above(i, 0));
        unknown("a DECLARATION", x, 6, i -> x.above(OBJECT, i));
        for (int node : new int[] {0, 7, VOID, NULL, 11, 14}) {
            refused("no CLASS TYPE: " + node, x, y -> y.above(node, 0), UNKNOWN);
        }
        due("the last NODE", x.above(nodes - 1, 4), nodes - 1);
        due("the last DECLARATION", x.above(nodes - 1, 5), NONE);
        due("no PARENT leads to OBJECT", x.above(nodes - 1, 0), NONE);
        due("nothing came", x.count(1), nodes);
        int array = x.array(OBJECT);
        refused("an ARRAY", x, y -> y.above(array, 0), UNKNOWN);
        Calls full = full();
        due("what is there", full.above(INNER, 4), INNER);
        due("NONE needs no room", full.above(INNER, 1), NONE);
    }

    private static void member() {
        Calls x = busy();
        int nodes = x.count(1);
        unknown("a NODE", x, nodes, i -> x.member(i, OBJECT));
        unknown("by", x, nodes, i -> x.member(OBJECT, i));
        for (int by : new int[] {0, 7, VOID, NULL, 11, 14}) {
            refused("by no CLASS TYPE: " + by, x, y -> y.member(OBJECT, by), UNKNOWN);
        }
        for (int i = 0; i < nodes; i++) {
            due("nothing is told by OBJECT: " + i, x.member(i, OBJECT), i);
        }
        due("nothing came", x.count(1), nodes);
        Calls full = full();
        int by = full.read("B<D>");
        due("what is there", full.member(11, by), D);
        refused("UNKNOWN ahead of ROOM", full, y -> y.member(200, by), UNKNOWN);
        refused("by no CLASS TYPE ahead of ROOM", full, y -> y.member(OUTER, 11), UNKNOWN);
        refused("ROOM", full, y -> y.member(OUTER, by), ROOM);
    }

    private static void memberTellsByEachWild() {
        String[] types = {"b0", "b0[]", "C<b0,A>", "C<+b0,A>", "C<-b0,A>", "C<b0[],A>", "C<+b0[],A>", "C<B<b0>,A>"};
        String[] by = {"B<D>", "B<+A>", "B<-A>", "B<?>", "B"};
        String[][] told = {
            {"D", "D[]", "C<D,A>", "C<+D,A>", "C<-D,A>", "C<D[],A>", "C<+D[],A>", "C<B<D>,A>"},
            {"A", "A[]", "C<+A,A>", "C<+A,A>", "C<?,A>", "C<A[],A>", "C<+A[],A>", "C<B<+A>,A>"},
            {"D", "D[]", "C<-A,A>", "C<?,A>", "C<-A,A>", "C<D[],A>", "C<+D[],A>", "C<B<-A>,A>"},
            {"D", "D[]", "C<?,A>", "C<?,A>", "C<?,A>", "C<D[],A>", "C<+D[],A>", "C<B<?>,A>"},
            {"D", "D[]", "C", "C", "C", "C", "C", "C"}};
        for (int i = 0; i < by.length; i++) {
            Calls y = Calls.world();
            due("BOUND", y.bound(1, 0, y.read("D")), 1);
            int teller = y.read(by[i]);
            for (int k = 0; k < types.length; k++) {
                due(types[k] + " by " + by[i], y.text(y.member(y.read(types[k]), teller)), told[i][k]);
            }
        }
    }

    private static void feedTakes() {
        for (int n = 1; n <= 8; n++) {
            Calls x = new Calls();
            due("feed of " + n, x.feed(n, 0x305B5D5B5D5B5D5BL), n);
            due("bytes", x.count(3), n);
        }
        Calls x = new Calls();
        due("the highest first", x.feed(8, 0x345B5D5B5D5B5D5BL), 8);
        due("only the lowest", x.feed(1, 0x3434343434343400L | ']'), 9);
        due("4[][][][]", x.text(x.read()), "4[][][][]");
        due("the last byte of 64 bits", x.feed(8, 0xFF5B5D5B5D5B5D5DL), 8);
        due("a byte above 127 is no letter", x.read(), -10);
        for (int n : new int[] {LEAST, -8, -1, 0, 9, 10, 100, MOST}) {
            refused("n = " + n, x, y -> y.feed(n, 0x34), OUTSIDE);
        }
    }

    private static void feedUpTo100() {
        for (int last = 1; last <= 8; last++) {
            Calls x = new Calls();
            int n = last;
            x.tape("4" + "[]".repeat(45));
            while (x.count(3) < 100 - n) {
                x.feed(1, ' ');
            }
            if (n < 8) {
                refused("one too many", x, y -> y.feed(n + 1, 0), ROOM);
            }
            due("up to 100", x.feed(n, ' '), 100);
            refused("more than 100", x, y -> y.feed(1, 0), ROOM);
            refused("more than 100, eight", x, y -> y.feed(8, 0), ROOM);
            refused("OUTSIDE ahead of ROOM", x, y -> y.feed(9, 0), OUTSIDE);
            refused("OUTSIDE ahead of ROOM", x, y -> y.feed(0, 0), OUTSIDE);
            due("read", x.read(), -10 - 91);
            due("there is room again", x.feed(8, 0), 8);
        }
    }

    private static void readTakesTheTape() {
        Calls x = busy();
        due("behind what is there", x.feed(2, 0x5B5DL), 6);
        due("read", x.text(x.read()), "B<D>[]");
        refusedRead("", x, -10);
        refusedRead("B<D>!", x, -14);
        refusedRead("b", x, -11);
        due("THE DRAFT is still there", x.text(x.make(1, NONE)), "B<-A>");
        due("a FAULT leaves nothing behind", x.text(x.read("D")), "D");
    }

    private static void readRefusesInOrder() {
        Calls x = full();
        refusedRead("D[]", x, ROOM);
        refusedRead("D[]!", x, -13);
        refusedRead("B<D[]", x, -15);
        refusedRead("E<D[]>", x, -10);
        refusedRead("C<D[],D>.E<C<A,A>.E<A>>.F[]", x, ROOM);
        due("what is there", x.read("C<+b0,?>.E<D>"), INNER);
        due("a primitive", x.read("7"), 7);
        Calls first = new Calls();
        due("FAULT at the first byte", first.read("["), -10);
        due("FAULT at the last byte", first.read("4" + "[]".repeat(49) + "x"), -109);
        due("FAULT at the length", first.read("4" + "[]".repeat(49) + "["), -110);
    }

    private static void printsUpTo200() {
        Calls x = new Calls();
        due("B", x.declare(CLASS, 1, NONE), 1);
        int node = 11;
        for (int i = 0; i < 49; i++) {
            x.argument(FROM, node);
            node = x.make(1, NONE);
        }
        int last = x.array(node);
        x.argument(EXACT, node);
        int over = x.make(1, NONE);
        int array = x.array(last);
        due("198 bytes", x.print(node), 198);
        refused("201 bytes", x, y -> y.print(over), ROOM);
        refused("202 bytes", x, y -> y.print(array), ROOM);
        refused("UNKNOWN", x, y -> y.print(array + 1), UNKNOWN);
        due("200 bytes", x.print(last), 200);
        refused("201 bytes again", x, y -> y.print(over), ROOM);
        due("the first byte", x.out(0), 'B');
        due("the last byte", x.out(199), ']');
        due("none behind it", x.out(200), NONE);
        due("less again", x.print(11), 2);
        due("OUT", x.count(4), 2);
        due("nothing is left of what was there", x.out(2), NONE);
        Calls odd = new Calls();
        due("B", odd.declare(CLASS, 1, NONE), 1);
        int type = OBJECT;
        for (int i = 0; i < 50; i++) {
            odd.argument(i == 0 ? EXACT : UP_TO, type);
            type = odd.make(1, NONE);
        }
        due("200 bytes in an odd way", odd.print(type), 200);
        Calls more = new Calls();
        due("B", more.declare(CLASS, 1, NONE), 1);
        type = OBJECT;
        for (int i = 0; i < 50; i++) {
            more.argument(UP_TO, type);
            type = more.make(1, NONE);
        }
        due("201 bytes in an odd way", more.print(type), ROOM);
        due("OUT stays empty", more.count(4), 0);
    }

    private static void printRefuses() {
        Calls x = busy();
        unknown("a NODE", x, x.count(1), x::print);
        due("OUT stays", x.count(4), 13);
        due("the last NODE", x.print(INNER), 13);
        due("the first NODE", x.print(0), 1);
    }

    private static void out() {
        Calls x = busy();
        String text = "C<+b0,?>.E<D>";
        for (int i = 0; i < text.length(); i++) {
            due("byte " + i, x.out(i), text.charAt(i));
        }
        for (int i : new int[] {LEAST, -2, -1, 13, 14, 199, 200, 201, MOST}) {
            due("byte " + i, x.out(i), NONE);
        }
        Calls empty = new Calls();
        for (int i : new int[] {LEAST, -1, 0, 1, 199, MOST}) {
            due("of nothing, byte " + i, empty.out(i), NONE);
        }
    }

    private static void counts() {
        Calls x = busy();
        int[] first = {6, 18, 1, 4, 13};
        for (int what = 0; what < first.length; what++) {
            due("count " + what, x.count(what), first[what]);
        }
        for (int number = 1; number <= 12; number++) {
            Calls y = new Calls();
            for (int d = 1; d < number; d++) {
                y.declare(INTERFACE, 0, NONE);
            }
            for (int what = 5; what < 40; what++) {
                boolean there = what < 5 + number || what >= 20 && what < 20 + number;
                due("count " + what + " of " + number, y.count(what), there ? 0 : UNKNOWN);
            }
        }
        for (int what : new int[] {LEAST, LEAST + 4, LEAST + 19, -20, -5, -2, -1, 33, 1 << 30, MOST}) {
            refused("count " + what, x, y -> y.count(what), UNKNOWN);
        }
    }

    private static void countsWhenFull() {
        Calls x = new Calls();
        due("B", x.declare(INTERFACE, 3, NONE), 1);
        for (int d = 2; d < 12; d++) {
            due("declare", x.declare(INTERFACE, 3, NONE), d);
        }
        int b = x.read("B");
        for (int place = 0; place < 3; place++) {
            for (int i = 1; i <= 3; i++) {
                due("BOUND", x.bound(11, place, b), i);
            }
        }
        for (int i = 1; i <= 3; i++) {
            due("PARENT", x.parent(11, b), i);
            due("argument", x.argument(ANY, 0), i);
        }
        x.fill(200);
        x.tape(" ".repeat(100));
        int[] due = {12, 200, 3, 100, 0};
        for (int what = 0; what < due.length; what++) {
            due("count " + what, x.count(what), due[what]);
        }
        due("BOUNDS of the last", x.count(16), 9);
        due("BOUNDS of the one before", x.count(15), 0);
        due("PARENTS of the last", x.count(31), 3);
        due("PARENTS of the one before", x.count(30), 0);
    }

    private static final int[] NUMBERS = {LEAST, LEAST + 1, -200, -13, -5, -4, -3, -2, -1, 0, 1, 2, 3, 4, 5, 8, 9, 10,
        11, 12, 13, 15, 17, 20, 31, 60, 61, 99, 100, 199, 200, 201, 511, 512, 1 << 16, 1 << 30, MOST - 1, MOST};

    private static int ask(Calls x, int call, int a, int b) {
        switch (call) {
            case 0:
                return x.declare(a, b, a);
            case 1:
                return x.declare(b, a, b);
            case 2:
                return x.variable(a, b);
            case 3:
                return x.bound(a, b, b);
            case 4:
                return x.bound(2, a, b);
            case 5:
                return x.parent(a, b);
            case 6:
                return x.argument(a, b);
            case 7:
                return x.make(a, b);
            case 8:
                return x.about(a, b);
            case 9:
                return x.below(a, b);
            case 10:
                return x.above(a, b);
            case 11:
                return x.member(a, b);
            case 12:
                return x.feed(a, b);
            case 13:
                return x.array(a) + x.whole(b);
            case 14:
                return x.erased(a) + x.print(b);
            default:
                return x.out(a) + x.count(b) + x.read();
        }
    }

    /** No call throws, whatever its numbers, in a new object, in a busy one, and in a full one. */
    private static void anyNumbers() {
        for (int call = 0; call <= 15; call++) {
            for (int world = 0; world < 3; world++) {
                Calls x = new Calls();
                for (int a : NUMBERS) {
                    for (int b : NUMBERS) {
                        if (x.number() == 0 || x.number() > 500) {
                            x = world == 0 ? new Calls() : world == 1 ? busy() : full();
                        }
                        due("an answer", ask(x, call, a, b) >= -1000 ? 1 : 0, 1);
                    }
                }
            }
        }
    }

    private static void run(int promise, Runnable... tests) {
        Check.about("promise " + promise);
        for (Runnable test : tests) {
            test.run();
        }
    }

    public static void main(String[] args) {
        run(1, PromisesBoundaryTest::newObject, PromisesBoundaryTest::anyNumbers);
        run(2, PromisesBoundaryTest::declareTakes, PromisesBoundaryTest::declareRefuses,
                PromisesBoundaryTest::declareRefusesInOrder);
        run(3, PromisesBoundaryTest::variable);
        run(4, PromisesBoundaryTest::boundUnknown, PromisesBoundaryTest::boundRefusesInOrder,
                PromisesBoundaryTest::boundComesToItself, PromisesBoundaryTest::boundsRefusedAreNone);
        run(5, PromisesBoundaryTest::parentUnknown, PromisesBoundaryTest::parentRefusesInOrder,
                PromisesBoundaryTest::parentsRefusedAreNone);
        run(6, PromisesBoundaryTest::argument, PromisesBoundaryTest::anyLooksAtNoNode);
        run(7, PromisesBoundaryTest::makeUnknown, PromisesBoundaryTest::makeRefusesInOrder,
                PromisesBoundaryTest::makeOuterTypes, PromisesBoundaryTest::makeTakesTheDraftOnce,
                PromisesBoundaryTest::makeLooksAtEachBound);
        run(8, PromisesBoundaryTest::array);
        run(9, PromisesBoundaryTest::about);
        run(10, PromisesBoundaryTest::below, PromisesBoundaryTest::belowPrimitives,
                PromisesBoundaryTest::belowOfArraysOfPrimitives);
        run(11, PromisesBoundaryTest::erased);
        run(12, PromisesBoundaryTest::whole);
        run(13, PromisesBoundaryTest::above);
        run(14, PromisesBoundaryTest::member, PromisesBoundaryTest::memberTellsByEachWild);
        run(15, PromisesBoundaryTest::feedTakes, PromisesBoundaryTest::feedUpTo100);
        run(16, PromisesBoundaryTest::readTakesTheTape, PromisesBoundaryTest::readRefusesInOrder);
        run(17, PromisesBoundaryTest::printsUpTo200, PromisesBoundaryTest::printRefuses);
        run(18, PromisesBoundaryTest::out);
        run(19, PromisesBoundaryTest::counts, PromisesBoundaryTest::countsWhenFull);
        Check.end();
    }
}
