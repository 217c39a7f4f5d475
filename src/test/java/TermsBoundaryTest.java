import java.util.function.IntFunction;
import java.util.function.Supplier;
import java.util.function.ToIntFunction;

/** The boundary cases that the document's Terms name: a test for each sentence. */
public final class TermsBoundaryTest {
    private static final int NONE = -1, UNKNOWN = -2, OUTSIDE = -3, ROOM = -5;
    private static final int CLASS = 0, INTERFACE = 1, EXCEPTION = 2;
    private static final int EXACT = 0, UP_TO = 1, FROM = 2, ANY = 3;
    private static final int VOID = 8, NULL = 9, OBJECT = 10;

    private static void due(String call, long got, long want) {
        Check.due(call, got, want);
    }

    private static void due(String call, String got, String want) {
        Check.due(call, got, want);
    }

    private static void refused(String call, Calls x, ToIntFunction<Calls> asked, int want) {
        String state = x.state();
        due(call, asked.applyAsInt(x), want);
        due(call + ": what is there behind it", x.state(), state);
    }

    private static void below(Calls x, String a, String b, int want) {
        due("below of " + a + " and " + b, x.below(x.read(a), x.read(b)), want);
    }

    private static String dimensions(int number) {
        return "[]".repeat(number);
    }

    /** An object with one DECLARATION, B. */
    private static Calls one(int kind, int parameters) {
        Calls x = new Calls();
        due("B", x.declare(kind, parameters, NONE), 1);
        return x;
    }

    private static void at512Calls() {
        Calls x = Calls.world();
        int deep = x.read("B<B<B<B<D>>>>");
        int wide = x.read("B<+B<+B<+B<+A>>>>");
        while (x.number() < Calls.MOST - 5) {
            due("below, call " + x.number(), x.below(deep, wide), 1);
        }
        due("declare", x.declare(CLASS, 3, NONE), 6);
        due("feed", x.feed(2, 'D' << 8 | '!'), 2);
        due("read", x.read(), -11);
        due("print", x.print(wide), 17);
        due("the 512th", x.out(16), '>');
        Calls refusing = new Calls();
        while (refusing.number() < Calls.MOST - 1) {
            due("refused, call " + refusing.number(), refusing.make(1, NONE), UNKNOWN);
        }
        due("the 512th behind refused ones", refusing.make(0, NONE), OBJECT);
    }

    private static void objectIsThereAtFirst() {
        Calls x = new Calls();
        int[] facts = {5, 0, NONE, NONE, NONE, 0, NONE, NONE, NONE, NONE, NONE, NONE, 0};
        for (int what = 0; what < facts.length; what++) {
            due("about OBJECT, " + what, x.about(OBJECT, what), facts[what]);
        }
        due("no VARIABLE", x.variable(0, 0), UNKNOWN);
        due("no BOUNDS", x.count(5), 0);
        due("no PARENTS", x.count(20), 0);
        Calls kind = one(INTERFACE, 1);
        due("first BOUND", kind.bound(1, 0, OBJECT), 1);
        due("no INTERFACE's as a second BOUND", kind.bound(1, 0, OBJECT), -105);
        due("no INTERFACE's as a PARENT", kind.parent(1, OBJECT), -108);
    }

    private static void declarationsAreTwelve() {
        Calls x = new Calls();
        for (int i = 1; i <= 11; i++) {
            due("DECLARATION " + i, x.declare(i % 2, i % 4, i % 3 == 0 ? NONE : i - 1), i);
        }
        due("twelve", x.count(0), 12);
        refused("a thirteenth", x, y -> y.declare(CLASS, 0, NONE), ROOM);
        refused("a thirteenth with VARIABLES", x, y -> y.declare(INTERFACE, 3, 11), ROOM);
    }

    private static void kindsAreThree() {
        Calls x = new Calls();
        refused("kind -1", x, y -> y.declare(-1, 0, NONE), OUTSIDE);
        refused("kind 3", x, y -> y.declare(3, 0, NONE), OUTSIDE);
        due("a CLASS", x.declare(CLASS, 0, NONE), 1);
        due("an INTERFACE", x.declare(INTERFACE, 1, NONE), 2);
        due("an EXCEPTION", x.declare(EXCEPTION, 0, NONE), 3);
        int exception = x.read("D");
        due("first BOUND", x.bound(2, 0, exception), 1);
        due("an EXCEPTION is a CLASS: no second BOUND", x.bound(2, 0, exception), -105);
        due("an INTERFACE", x.declare(INTERFACE, 0, NONE), 4);
        due("an EXCEPTION is a CLASS: no PARENT of an INTERFACE", x.parent(4, exception), -108);
        due("a CLASS", x.declare(CLASS, 0, NONE), 5);
        due("an EXCEPTION as a CLASS's PARENT", x.parent(5, exception), 1);
        due("an EXCEPTION as a second PARENT", x.parent(5, exception), -108);
    }

    private static void parametersAreNoneToThree() {
        Calls x = new Calls();
        refused("-1 PARAMETERS", x, y -> y.declare(CLASS, -1, NONE), OUTSIDE);
        refused("4 PARAMETERS", x, y -> y.declare(CLASS, 4, NONE), OUTSIDE);
        for (int parameters = 0, nodes = 11; parameters <= 3; parameters++) {
            due("declare with " + parameters, x.declare(CLASS, parameters, NONE), parameters + 1);
            nodes += parameters;
            due("NODES behind " + parameters, x.count(1), nodes);
            due("first VARIABLE of " + parameters, x.variable(parameters + 1, 0), parameters > 0 ? nodes - parameters
                    : UNKNOWN);
            due("last VARIABLE of " + parameters, x.variable(parameters + 1, parameters - 1),
                    parameters > 0 ? nodes - 1 : UNKNOWN);
            due("one more of " + parameters, x.variable(parameters + 1, parameters), UNKNOWN);
        }
        refused("an EXCEPTION with one", x, y -> y.declare(EXCEPTION, 1, NONE), -101);
        refused("an EXCEPTION with three", x, y -> y.declare(EXCEPTION, 3, NONE), -101);
        due("an EXCEPTION with none", x.declare(EXCEPTION, 0, NONE), 5);
    }

    private static void outerOnesAreLesser() {
        Calls x = new Calls();
        refused("in itself", x, y -> y.declare(CLASS, 0, 1), UNKNOWN);
        refused("in -2", x, y -> y.declare(CLASS, 0, -2), UNKNOWN);
        due("in OBJECT", x.declare(CLASS, 0, 0), 1);
        refused("in itself", x, y -> y.declare(CLASS, 0, 2), UNKNOWN);
        due("in the one before", x.declare(CLASS, 0, 1), 2);
        due("A.B.C", x.text(x.read("A.B.C")), "A.B.C");
        for (int i = 3; i < 12; i++) {
            due("in the one before", x.declare(EXCEPTION, 0, i - 1), i);
        }
        due("twelve in one another", x.text(x.read("A.B.C.D.E.F.G.H.I.J.K.L")), "A.B.C.D.E.F.G.H.I.J.K.L");
        due("NODES", x.count(1), 22);
    }

    private static void typesAreTheseNumbers() {
        Calls x = new Calls();
        int[] forms = {0, 0, 0, 0, 0, 0, 0, 0, 1, 2, 5};
        for (int node = 0; node < forms.length; node++) {
            due("form of " + node, x.about(node, 0), forms[node]);
            due("TEXT of " + node, x.text(node), node < 10 ? "" + node : "A");
        }
        due("there is no NODE 11", x.about(11, 0), UNKNOWN);
        due("there is no NODE -1", x.about(-1, 0), UNKNOWN);
    }

    private static void argumentsAreAsManyAsParametersOrNone() {
        Calls x = new Calls();
        for (int parameters = 0; parameters <= 3; parameters++) {
            due("declare", x.declare(CLASS, parameters, NONE), parameters + 1);
            for (int given = 0; given <= 3; given++) {
                for (int i = 0; i < given; i++) {
                    due("argument", x.argument(ANY, 0), i + 1);
                }
                int made = x.make(parameters + 1, NONE);
                boolean fits = given == 0 || given == parameters;
                due("make with " + given + " of " + parameters, fits ? x.about(made, 5) : made, fits ? given : -110);
                due("RAW with " + given + " of " + parameters, fits ? x.about(made, 12) : 0,
                        given == 0 && parameters > 0 ? 1 : 0);
            }
        }
    }

    private static void rawByAnOuterType() {
        Calls x = Calls.world();
        String[] raw = {"B", "C", "C.E", "C<A,A>.E", "C.E.F", "C<?,?>.E.F"};
        for (String s : raw) {
            due("RAW: " + s, x.about(x.read(s), 12), 1);
        }
        String[] others = {"A", "D", "B<?>", "B<B>", "C<A,A>.E<?>", "C<A,A>.E<A>.F", "B[]", "b0", "4", "8", "9"};
        for (String s : others) {
            due("not RAW: " + s, x.about(x.read(s), 12), 0);
        }
    }

    private static void equalNodesAreOne() {
        Calls x = Calls.world();
        int made = x.read("C<+B<A>,?>.E<-4[]>");
        int nodes = x.count(1);
        due("read again", x.read("C<+B<A>,?>.E<-4[]>"), made);
        x.argument(FROM, x.array(4));
        due("made again", x.make(4, x.about(made, 4)), made);
        due("an ARRAY again", x.array(x.about(x.read("B<A>[]"), 3)), x.read("B<A>[]"));
        due("OBJECT again", x.make(0, NONE), OBJECT);
        due("only B<A>[] came", x.count(1), nodes + 1);
        due("another WILD is another", x.read("B<+A>"), nodes + 1);
        due("another OUTER TYPE is another", x.text(x.read("C<A,?>.E<-4[]>")), "C<A,?>.E<-4[]>");
        due("two came with it", x.count(1), nodes + 4);
    }

    private static void partsComeAheadInOrder() {
        Calls x = Calls.world();
        String[] parts = {"D", "D[]", "B<D[]>", "4[]", "C<-B<D[]>,4[]>", "B<b0>", "C<-B<D[]>,4[]>.E<+B<b0>>",
            "C<-B<D[]>,4[]>.E<+B<b0>>.F", "C<-B<D[]>,4[]>.E<+B<b0>>.F[]"};
        due("the last", x.read(parts[parts.length - 1]), 14 + parts.length);
        for (int i = 0; i < parts.length; i++) {
            due("part " + i, x.text(15 + i), parts[i]);
        }
        due("NODES", x.count(1), 15 + parts.length);
        due("of ERASED, C first", x.erased(22), 26);
        due("C", x.text(24), "C");
        due("C.E", x.text(25), "C.E");
        due("C.E.F", x.text(26), "C.E.F");
    }

    /** A call that needs some new NODES: with room for just these, and with room for one less. */
    private static void roomFor(String name, int need, ToIntFunction<Calls> prepared,
            IntFunction<ToIntFunction<Calls>> call) {
        Calls x = Calls.world();
        int with = prepared.applyAsInt(x);
        x.fill(200 - need);
        int answer = call.apply(with).applyAsInt(x);
        due(name + " with room for " + need, answer, name.equals("declare") ? 6 : 199);
        due(name + ": NODES", x.count(1), 200);
        Calls less = Calls.world();
        due(name + ": prepared", prepared.applyAsInt(less), with);
        less.fill(201 - need);
        refused(name + " with room for one less", less, call.apply(with), ROOM);
        Calls full = Calls.world();
        due(name + ": prepared", prepared.applyAsInt(full), with);
        full.fill(200);
        refused(name + " without room", full, call.apply(with), ROOM);
    }

    private static void nodesAre200() {
        roomFor("declare", 3, x -> 0, i -> x -> x.declare(CLASS, 3, NONE));
        roomFor("declare", 1, x -> 0, i -> x -> x.declare(INTERFACE, 1, 2));
        roomFor("make", 1, x -> x.read("D"), i -> x -> {
            due("argument", x.argument(UP_TO, i), 1);
            return x.make(1, NONE);
        });
        roomFor("array", 1, x -> x.read("B<D>"), i -> x -> x.array(i));
        roomFor("erased", 3, x -> x.read("C<A,A>.E<A>.F"), i -> x -> x.erased(i));
        roomFor("above", 2, x -> {
            due("G", x.declare(CLASS, 1, NONE), 6);
            due("PARENT", x.parent(6, x.read("C<A,A>.E<A>")), 1);
            return x.read("G");
        }, i -> x -> x.above(i, 4));
        roomFor("member", 2, x -> x.read("b0[][]") * 1000 + x.read("B<D>"), i -> x -> x.member(i / 1000, i % 1000));
        roomFor("read", 3, x -> 0, i -> x -> x.read("D[][]"));
        roomFor("read", 1, x -> x.read("D[]"), i -> x -> x.read("B<D[]>"));
    }

    private static void fullIsNoRefusalOfWhatIsThere() {
        Calls x = Calls.world();
        due("PARENT", x.parent(2, x.read("B<c1>")), 1);
        int array = x.read("D[]");
        int raw = x.read("B");
        int node = x.read("B<D>");
        int by = x.read("C<?,D>");
        x.fill(200);
        due("no VARIABLES", x.declare(CLASS, 0, NONE), 6);
        due("array", x.array(x.about(array, 3)), array);
        due("erased", x.erased(node), raw);
        due("above", x.above(by, 1), node);
        due("member", x.member(x.read("B<c1>"), by), node);
        due("argument", x.argument(EXACT, x.read("D")), 1);
        due("make", x.make(1, NONE), node);
        due("read", x.read("C<?,D>"), by);
        due("below makes none", x.below(by, node), 1);
        due("NODES", x.count(1), 200);
        due("the last one", x.about(199, 0), 4);
        due("none behind it", x.about(200, 0), UNKNOWN);
    }

    /** A refusal for lack of ROOM is one call's; what is there is answered by the next. */
    private static void roomIsRefusedToOneCallOnly() {
        Calls x = Calls.world();
        due("PARENT", x.parent(2, x.read("B<c1>")), 1);
        int array = x.read("D[]");
        int raw = x.read("B");
        int node = x.read("B<D>");
        int by = x.read("C<?,D>");
        int d = x.read("D");
        x.fill(200);
        ToIntFunction<Calls> refusing = y -> y.read("C<D[],D[]>.E<B<B>>");
        due("refused", refusing.applyAsInt(x), ROOM);
        due("array", x.array(d), array);
        due("refused", refusing.applyAsInt(x), ROOM);
        due("erased", x.erased(node), raw);
        due("refused", refusing.applyAsInt(x), ROOM);
        due("above", x.above(by, 1), node);
        due("refused", refusing.applyAsInt(x), ROOM);
        due("member", x.member(11, node), d);
        due("refused", refusing.applyAsInt(x), ROOM);
        due("argument", x.argument(EXACT, d), 1);
        due("make", x.make(1, NONE), node);
        due("refused", refusing.applyAsInt(x), ROOM);
        due("read", x.read("C<?,D>"), by);
        due("refused", refusing.applyAsInt(x), ROOM);
        due("below", x.below(by, node), 1);
        due("refused", refusing.applyAsInt(x), ROOM);
        due("declare", x.declare(CLASS, 0, NONE), 6);
    }

    /** NODES that had no ROOM leave nothing behind in those that come in their places. */
    private static void placesOfRefusedNodesAreFree() {
        Calls x = Calls.world();
        x.fill(199);
        due("refused", x.read("C.E"), ROOM);
        due("C is none", x.about(199, 0), UNKNOWN);
        due("C", x.read("C"), 199);
        due("NODES", x.count(1), 200);
        for (int free = 1; free <= 3; free++) {
            Calls y = Calls.world();
            y.read("C<A,+B<?>>.E<A>.F");
            y.fill(200 - free);
            due("refused", y.read("C.E.F[]"), ROOM);
            due("VARIABLES", y.declare(CLASS, free, NONE), 6);
            int[] facts = {3, 6, free - 1, NONE, NONE, 0, NONE, NONE, NONE, NONE, NONE, NONE, 0};
            for (int what = 0; what < facts.length; what++) {
                due("about the last VARIABLE, " + what, y.about(199, what), facts[what]);
            }
            due("TEXT", y.text(199), "g" + (free - 1));
            due("not whole", y.whole(199), 0);
            due("not a BOUND of another's", y.bound(2, 0, 199), -102);
            due("ERASED", y.erased(199), OBJECT);
        }
    }

    private static void sizesAre60() {
        Calls nested = one(CLASS, 1);
        int node = OBJECT;
        for (int size = 2; size <= 60; size++) {
            nested.argument(EXACT, node);
            node = nested.make(1, NONE);
            due("make of SIZE " + size, node, 10 + size);
        }
        int largest = node;
        refused("make of SIZE 61", nested, x -> {
            x.argument(FROM, largest);
            return x.make(1, NONE);
        }, ROOM);
        refused("array of SIZE 61", nested, x -> x.array(largest), ROOM);
        due("array of SIZE 60", nested.array(largest - 1), largest + 1);
        Calls arrays = new Calls();
        for (int size = 2; size <= 60; size++) {
            due("array of SIZE " + size, arrays.array(size == 2 ? 4 : 8 + size), 9 + size);
        }
        refused("array of SIZE 61", arrays, x -> x.array(69), ROOM);
    }

    private static void sizesAre60OfWhatIsErased() {
        Calls x = Calls.world();
        due("BOUND", x.bound(2, 0, x.read("C<A,A>.E<A>.F")), 1);
        int first = x.read("c0[]");
        for (int i = 1; i < 58; i++) {
            due("array", x.array(first + i - 1), first + i);
        }
        refused("erased of SIZE 61", x, y -> y.erased(first + 57), ROOM);
        int erased = x.erased(first + 56);
        due("erased of SIZE 60", x.about(erased, 0), 4);
        due("its parts came", erased, first + 57 + 60);
    }

    private static void sizesAre60OfWhatIsAbove() {
        Calls x = new Calls();
        due("B", x.declare(INTERFACE, 3, NONE), 1);
        due("C", x.declare(INTERFACE, 1, NONE), 2);
        due("D", x.declare(INTERFACE, 1, NONE), 3);
        due("PARENT", x.parent(2, x.read("B<c0,c0,A>")), 1);
        due("PARENT", x.parent(3, x.read("B<d0,d0,A[]>")), 1);
        int part = x.read("A" + dimensions(28));
        x.argument(EXACT, part);
        int even = x.make(2, NONE);
        x.argument(EXACT, part);
        int odd = x.make(3, NONE);
        refused("above of SIZE 61", x, y -> y.above(odd, 1), ROOM);
        int node = x.above(even, 1);
        due("above of SIZE 60", x.about(node, 5), 3);
        due("above of SIZE 60, its part", x.about(node, 10), part);
    }

    private static void sizesAre60OfWhatIsPutIn() {
        Calls x = one(CLASS, 1);
        int type = x.read("b0" + dimensions(30));
        int large = x.read("B<A" + dimensions(30) + ">");
        refused("member of SIZE 61", x, y -> y.member(type, large), ROOM);
        int taken = x.member(type, x.read("B<A" + dimensions(29) + ">"));
        due("member of SIZE 60", x.about(taken, 0), 4);
    }

    private static void sizeCountsPartsAsOftenAsTheyStandThere() {
        Calls x = one(CLASS, 3);
        int nineteen = x.read("A" + dimensions(18));
        int twenty = x.array(nineteen);
        for (int wild : new int[] {EXACT, UP_TO, FROM}) {
            for (int i = 0; i < 3; i++) {
                x.argument(wild, nineteen);
            }
            due("SIZE 58", x.about(x.make(1, NONE), 5), 3);
            refused("SIZE 61", x, y -> {
                for (int i = 0; i < 3; i++) {
                    y.argument(wild, twenty);
                }
                return y.make(1, NONE);
            }, ROOM);
        }
        x.argument(EXACT, twenty);
        x.argument(ANY, twenty);
        x.argument(EXACT, x.read("A" + dimensions(37)));
        int node = x.make(1, NONE);
        due("ANY has no part: SIZE 59", x.about(node, 5), 3);
        int sixty = x.array(node);
        due("SIZE 60", x.about(sixty, 3), node);
        refused("SIZE 61", x, y -> y.array(sixty), ROOM);
    }

    private static void outerTypesAreParts() {
        Calls x = new Calls();
        due("B", x.declare(CLASS, 1, NONE), 1);
        due("C", x.declare(CLASS, 0, 1), 2);
        x.argument(EXACT, x.read("A" + dimensions(49)));
        int node = x.make(1, NONE);
        due("SIZE 51", x.about(node, 0), 5);
        int inner = x.make(2, node);
        due("SIZE 52", x.about(inner, 4), node);
        for (int size = 53; size <= 60; size++) {
            inner = x.array(inner);
        }
        due("SIZE 60", x.about(inner, 0), 4);
        int last = inner;
        refused("SIZE 61", x, y -> y.array(last), ROOM);
    }

    /** Only what is answered has to be of a SIZE, and becomes a NODE. */
    private static void whatIsOnTheWayMayBeLarge() {
        Calls x = new Calls();
        due("B", x.declare(INTERFACE, 1, NONE), 1);
        due("C", x.declare(INTERFACE, 3, NONE), 2);
        due("D", x.declare(INTERFACE, 1, NONE), 3);
        due("PARENT", x.parent(2, x.read("B<c1>")), 1);
        due("PARENT", x.parent(3, x.read("C<d0,d0,d0>")), 1);
        int part = x.read("A" + dimensions(40));
        x.argument(EXACT, part);
        int node = x.make(3, NONE);
        int any = x.read("C<?,?,?>");
        int nodes = x.count(1);
        due("below by a large SUPER", x.below(node, any), 1);
        due("below makes no NODE", x.count(1), nodes);
        due("a large SUPER", x.above(node, 2), ROOM);
        due("SUPER by a large one", x.about(x.above(node, 1), 9), part);
        due("one NODE came", x.count(1), nodes + 1);
        due("BOUND", x.bound(1, 0, x.read("C<b0,b0,b0>")), 1);
        x.argument(EXACT, part);
        due("RULE 13 by a large BOUND", x.make(1, NONE), -113);
    }

    private static void boundsAreThree() {
        for (int place = 0; place < 3; place++) {
            Calls x = new Calls();
            due("B", x.declare(INTERFACE, 3, NONE), 1);
            int node = x.read("B<?,?,?>");
            int at = place;
            due("none", x.count(6), 0);
            due("first", x.bound(1, place, OBJECT), 1);
            due("second", x.bound(1, place, node), 2);
            due("third", x.bound(1, place, node), 3);
            refused("fourth", x, y -> y.bound(1, at, node), ROOM);
            due("another VARIABLE's first", x.bound(1, (place + 1) % 3, node), 1);
            due("of all", x.count(6), 4);
        }
    }

    private static void parentsAreThree() {
        Calls x = new Calls();
        due("B", x.declare(INTERFACE, 0, NONE), 1);
        int b = x.read("B");
        for (int kind = 0; kind < 3; kind++) {
            int d = x.declare(kind, 0, NONE);
            due("none", x.count(20 + d), 0);
            due("first", x.parent(d, kind == INTERFACE ? b : OBJECT), 1);
            due("second", x.parent(d, b), 2);
            due("third", x.parent(d, b), 3);
            refused("fourth", x, y -> y.parent(d, b), ROOM);
            due("three", x.count(20 + d), 3);
        }
    }

    /** B: interface, 2; C: class, 1, in B; D: class, 1; E: class, 1, the one whose BOUND or PARENT it is. */
    private static Calls family() {
        Calls x = new Calls();
        x.declare(INTERFACE, 2, NONE);
        x.declare(CLASS, 1, 1);
        x.declare(CLASS, 1, NONE);
        x.declare(CLASS, 1, NONE);
        return x;
    }

    private static final String[] AS_TOLD = {"A", "B", "D", "D<e0>", "D<A>", "D<?>", "D<+A>", "D<-A[]>", "B<e0,e0>",
        "B<e0,?>", "B<A,e0>", "D<D<A>>", "D<4[]>", "B<A,?>.C<e0>", "B<A,?>.C", "B.C", "D<B<A,A>.C<?>>"};
    private static final String[] NOT_AS_TOLD = {"4", "8", "9", "A[]", "e0[]", "D<e0>[]", "D<+e0>", "D<-e0>", "D<e0[]>",
        "D<D<e0>>", "D<d0>", "D<+d0>", "B<e0,b0>", "B<e0,+e0>", "B<e0,A>.C<A>", "B<A,e0>.C", "B<b0,A>.C<A>", "d0"};

    private static void boundsAreAsTold() {
        for (String s : AS_TOLD) {
            Calls x = family();
            due("BOUND " + s, x.bound(4, 0, x.read(s)), 1);
        }
        for (String s : NOT_AS_TOLD) {
            Calls x = family();
            int node = x.read(s);
            refused("BOUND " + s, x, y -> y.bound(4, 0, node), -102);
        }
    }

    private static void parentsAreAsTold() {
        for (String s : AS_TOLD) {
            Calls x = family();
            due("PARENT " + s, x.parent(4, x.read(s)), 1);
        }
        for (String s : NOT_AS_TOLD) {
            Calls x = family();
            int node = x.read(s);
            refused("PARENT " + s, x, y -> y.parent(4, node), -102);
        }
        Calls x = family();
        refused("PARENT e0", x, y -> y.parent(4, y.variable(4, 0)), -102);
    }

    private static void aVariableAsABoundIsAlone() {
        Calls x = one(CLASS, 3);
        due("a VARIABLE", x.bound(1, 0, 12), 1);
        refused("a VARIABLE behind it", x, y -> y.bound(1, 0, 13), -104);
        refused("the same behind it", x, y -> y.bound(1, 0, 12), -104);
        refused("a CLASS TYPE behind it", x, y -> y.bound(1, 0, OBJECT), -104);
        due("a CLASS TYPE", x.bound(1, 1, OBJECT), 1);
        refused("a VARIABLE behind that", x, y -> y.bound(1, 1, 13), -104);
    }

    private static void erasedWithoutBounds() {
        Calls x = one(CLASS, 3);
        due("b0", x.erased(11), OBJECT);
        due("b0 by b1", x.bound(1, 0, 12), 1);
        due("b0 by b1 without any", x.erased(11), OBJECT);
        due("b1 by b2", x.bound(1, 1, 13), 1);
        due("the longest chain without any", x.erased(11), OBJECT);
        due("b2 by B<?,b0,?>", x.bound(1, 2, x.read("B<?,b0,?>")), 1);
        due("the longest chain", x.text(x.erased(11)), "B");
        due("an ARRAY of it", x.text(x.erased(x.read("b0[][]"))), "B[][]");
    }

    private static void superOfTheLongestChain() {
        Calls x = new Calls();
        due("B", x.declare(INTERFACE, 1, NONE), 1);
        for (int d = 2; d < 12; d++) {
            due("declare", x.declare(INTERFACE, 1, NONE), d);
            x.argument(EXACT, x.variable(d, 0));
            due("PARENT", x.parent(d, x.make(d - 1, NONE)), 1);
        }
        int last = x.read("L<+A>");
        due("ten up", x.text(x.above(last, 1)), "B<+A>");
        due("one up", x.text(x.above(last, 10)), "K<+A>");
        due("itself", x.above(last, 11), last);
        due("none", x.above(last, 0), NONE);
        due("none of a greater one", x.above(x.read("K<A>"), 11), NONE);
        due("RAW", x.text(x.above(x.read("L"), 1)), "B");
        due("below", x.below(last, x.read("B<?>")), 1);
        due("UNCHECKED", x.below(x.read("L"), x.read("B<A>")), 2);
        due("not below", x.below(x.read("B<?>"), last), 0);
    }

    /** All ways up are 3 to the 10th, and none comes to what is asked: this has to end, and soon. */
    private static void superOfTheWidestTree() {
        Calls x = new Calls();
        due("B", x.declare(INTERFACE, 0, NONE), 1);
        due("C", x.declare(INTERFACE, 0, NONE), 2);
        for (int d = 3; d < 12; d++) {
            due("declare", x.declare(INTERFACE, 0, NONE), d);
            int node = x.make(d - 1, NONE);
            for (int i = 1; i <= 3; i++) {
                due("PARENT", x.parent(d, node), i);
            }
        }
        due("none", x.above(x.read("L"), 1), NONE);
        due("nine up", x.text(x.above(x.read("L"), 2)), "C");
        due("not below", x.below(x.read("L"), x.read("B")), 0);
    }

    /** B .. L, each with a PARAMETER, in one another. */
    private static Calls nested() {
        Calls x = new Calls();
        for (int d = 1; d < 12; d++) {
            due("declare", x.declare(CLASS, 1, d - 1), d);
        }
        return x;
    }

    private static String nest(String first, String others) {
        StringBuilder s = new StringBuilder("A.B").append(first);
        for (char c = 'C'; c <= 'L'; c++) {
            s.append('.').append(c).append(others);
        }
        return s.toString();
    }

    private static void outerTypesGoOnToTheLast() {
        Calls x = nested();
        int any = x.read(nest("<?>", "<?>"));
        int told = x.read(nest("<+4[]>", "<?>"));
        due("all are ANY", x.whole(any), 1);
        due("the outermost is not ANY", x.whole(told), 0);
        due("the outermost tells", x.text(x.member(x.read("b0"), told)), "4[]");
        due("the outermost tells an ARGUMENT", x.text(x.member(x.read("A.B<b0>"), told)), "A.B<+4[]>");
        due("by ANY it is ERASED", x.member(x.read("b0"), any), OBJECT);
        due("below, the outermost is another", x.below(told, any), 0);
        due("not RAW", x.about(any, 12), 0);
        int raw = x.erased(told);
        due("ERASED up to the outermost", x.text(raw), nest("", ""));
        due("RAW by the outermost", x.about(raw, 12), 1);
        due("below what is RAW", x.below(told, raw), 1);
        due("RAW is UNCHECKED", x.below(raw, told), 2);
        due("RAW is whole", x.whole(raw), 1);
        due("ARGUMENTS in what is RAW", x.read("A.B.C<?>"), -14);
        due("others stay", x.member(x.read("c0"), x.read("A.B<A>")), x.read("c0"));
    }

    private static void argumentsAreInOneAnother() {
        String[] in = {"D", "+D", "-D", "?", "A", "+A", "-A"};
        String[] rows = {"1111.1.", ".1.1.1.", "..11...", "...1...", "..11111", "...1.1.", "..11..1"};
        for (int i = 0; i < in.length; i++) {
            Calls x = Calls.world();
            for (int k = 0; k < in.length; k++) {
                below(x, "B<" + in[i] + ">", "B<" + in[k] + ">", rows[i].charAt(k) == '1' ? 1 : 0);
            }
        }
    }

    private static void belowIsFourDeepAtMost() {
        Calls x = Calls.world();
        below(x, "D" + dimensions(4), "A" + dimensions(4), 1);
        below(x, "D" + dimensions(5), "A" + dimensions(5), 0);
        below(x, "B" + dimensions(4), "B<A>" + dimensions(4), 2);
        below(x, "B" + dimensions(5), "B<A>" + dimensions(5), 0);
        below(x, "4" + dimensions(5), "A" + dimensions(4), 1);
        below(x, "4" + dimensions(6), "A" + dimensions(5), 0);
        below(x, "D" + dimensions(9), "D" + dimensions(9), 1);
        below(x, "B<B<B<B<D>>>>", "B<+B<+B<+B<+D>>>>", 1);
        below(x, "B<B<B<B<B<D>>>>>", "B<+B<+B<+B<+B<+D>>>>>", 0);
        below(x, "B<B<B<B<B<D>>>>>", "B<+B<+B<+B<+B<D>>>>>", 1);
        below(x, "B<B<B<B<B<D>>>>>", "B<+B<+B<+B<+B<?>>>>>", 1);
        below(x, "B<-B<-B<-B<-D>>>>", "B<-B<-B<-B<D>>>>", 1);
        below(x, "B<B<-B<B<-D>>>>", "B<-B<B<-B<D>>>>", 1);
        below(x, "B<B<-B<B<-B<A>>>>>", "B<-B<B<-B<B<?>>>>>", 1);
        below(x, "B<B<-B<B<-B<A>>>>>", "B<-B<B<-B<B<+A>>>>>", 0);
        below(x, "B<B<B<B>>>", "B<+B<+B<+B<A>>>>", 2);
        below(x, "B<B<B<B<B>>>>", "B<+B<+B<+B<+B<A>>>>>", 2);
        below(x, "B<B<B<B<B<B>>>>>", "B<+B<+B<+B<+B<+B<A>>>>>>", 0);
        below(x, "C<B<B<B<B<D>>>>,B<B<B<D>>>>", "C<+B<+B<+B<+B<+D>>>>,+B<+B<+B<+D>>>>", 0);
        below(x, "C<B<B<B<D>>>,B<B<B<D>>>>", "C<+B<+B<+B<+D>>>,+B<+B<+B<+D>>>>", 1);
    }

    private static void boundsAreOneDeeperEach() {
        Calls x = new Calls();
        due("B", x.declare(CLASS, 3, NONE), 1);
        due("C", x.declare(INTERFACE, 1, NONE), 2);
        due("b0 by b1", x.bound(1, 0, 12), 1);
        due("b1 by b2", x.bound(1, 1, 13), 1);
        due("b2 by C<A[]>", x.bound(1, 2, x.read("C<A[]>")), 1);
        below(x, "b0", "C<A[]>", 1);
        below(x, "b0", "C<+A>", 1);
        below(x, "b0", "b2", 1);
        below(x, "b0[]", "C<+A>[]", 0);
        below(x, "b1[]", "C<+A>[]", 1);
        below(x, "b0[]", "C<A[]>[]", 1);
        below(x, "b0[][]", "C<A[]>[][]", 0);
        below(x, "b1[][]", "C<A[]>[][]", 1);
        below(x, "b0[][]", "b2[][]", 1);
        below(x, "b0[][][]", "b2[][][]", 0);
        below(x, "C<b0>", "C<+C<?>>", 1);
        below(x, "C<C<b0>>", "C<+C<+C<?>>>", 0);
    }

    private static void theFirstBoundThatIsBelowTells() {
        Calls x = new Calls();
        due("B", x.declare(INTERFACE, 1, NONE), 1);
        due("C", x.declare(INTERFACE, 0, NONE), 2);
        due("D", x.declare(CLASS, 1, NONE), 3);
        due("first", x.bound(3, 0, x.read("C")), 1);
        due("second", x.bound(3, 0, x.read("B")), 2);
        due("third", x.bound(3, 0, x.read("B<C>")), 3);
        below(x, "d0", "C", 1);
        below(x, "d0", "B", 1);
        below(x, "d0", "B<C>", 2);
        below(x, "d0", "B<A>", 2);
        below(x, "d0", "D", 0);
        below(x, "d0", "A", 1);
        below(x, "d0", "b0", 0);
        below(x, "b0", "A", 1);
        below(x, "b0", "C", 0);
    }

    /** B .. L: each with three PARAMETERS, a PARENT of the one before, and RULE 13 asked for each part that is read. */
    private static Calls dear() {
        Calls x = new Calls();
        due("B", x.declare(INTERFACE, 3, NONE), 1);
        for (int d = 2; d < 12; d++) {
            due("declare", x.declare(INTERFACE, 3, NONE), d);
            x.argument(EXACT, x.variable(d, 2));
            x.argument(EXACT, x.variable(d, 0));
            x.argument(EXACT, x.variable(d, 1));
            due("PARENT", x.parent(d, x.make(d - 1, NONE)), 1);
        }
        String bound = "B<+B<+B<+B<+A,?,?>,?,?>,?,?>,?,?>";
        for (int place = 0; place < 3; place++) {
            for (int i = 1; i <= 3; i++) {
                due("BOUND", x.bound(11, place, x.read(bound)), i);
            }
        }
        return x;
    }

    /** The dearest calls: each of ten PARENTS is PUT IN, at each of four depths, for each of nine BOUNDS. */
    private static void belowOfTheLongestChains() {
        Calls x = dear();
        String part = "K<K<K<K<A,?,?>,?,?>,?,?>,?,?>";
        String text = "L<" + part + "," + part + "," + part + ">";
        due("bytes", text.length(), 92);
        due("read", x.text(x.read(text)), text);
        String low = "K<K<K<K<?,?,?>,?,?>,?,?>,?,?>";
        due("ANY is not UP TO OBJECT", x.read("L<" + part + "," + part + "," + low + ">"), -10);
        int a = x.read("K<" + part + ",?,?>");
        due("five deep", x.below(a, x.read("B<+B<+B<+B<+B<+A,?,?>,?,?>,?,?>,?,?>,?,?>")), 0);
        due("four deep", x.below(a, x.read("B<+B<+B<+B<+B<A,?,?>,?,?>,?,?>,?,?>,?,?>")), 1);
    }

    /** RULE 13 asks anew: what is asked there is not within another BELOW. */
    private static void boundsOfWhatIsMadeAreAskedFirst() {
        Calls x = Calls.world();
        due("BOUND", x.bound(4, 0, x.read("B<+B<+B<+B<+D>>>>")), 1);
        int outer = x.read("C<A,A>");
        x.argument(EXACT, x.read("B<B<B<B<D>>>>"));
        due("four deep", x.about(x.make(4, outer), 4), outer);
        Calls y = Calls.world();
        due("BOUND", y.bound(4, 0, y.read("B<+B<+B<+B<+B<+D>>>>>")), 1);
        int around = y.read("C<A,A>");
        int deep = y.read("B<B<B<B<B<D>>>>>");
        refused("five deep", y, z -> {
            z.argument(EXACT, deep);
            return z.make(4, around);
        }, -113);
    }

    /** What is answered to a TEXT with each of the 256 bytes at its end. */
    private static void each(String before, Supplier<Calls> world, IntFunction<String> want) {
        Calls x = world.get();
        for (int b = 0; b < 256; b++) {
            x = x.number() < 450 ? x : world.get();
            int answer = x.read(before + (char) b);
            due("read of " + before + " and byte " + b, answer < 0 ? "" + answer : x.text(answer), want.apply(b));
        }
    }

    private static boolean among(int b, String letters) {
        return letters.indexOf(b) >= 0;
    }

    private static void bytesOfATextsBegin() {
        each("", Calls::world, b -> among(b, "0123456789ABCD") ? "" + (char) b : among(b, "abcdef") ? "-11" : "-10");
        each("b", Calls::world, b -> b == '0' ? "b0" : "-11");
        each("c", Calls::world, b -> among(b, "01") ? "c" + (char) b : "-11");
        each("d", Calls::world, b -> "-11");
        each("a", Calls::world, b -> "-11");
        each("b", () -> one(CLASS, 3), b -> among(b, "012") ? "b" + (char) b : "-11");
        each("b0", Calls::world, b -> b == '[' ? "-13" : "-12");
    }

    private static void bytesOfArrays() {
        for (int digit = 0; digit <= 9; digit++) {
            boolean plain = digit < 8;
            each("" + digit, Calls::world, b -> plain && b == '[' ? "-12" : "-11");
        }
        each("4[", Calls::world, b -> b == ']' ? "4[]" : "-12");
        each("4[]", Calls::world, b -> b == '[' ? "-14" : "-13");
        each("4[][", Calls::world, b -> b == ']' ? "4[][]" : "-14");
        each("D[]", Calls::world, b -> b == '[' ? "-14" : "-13");
        each("B<D>", Calls::world, b -> among(b, "[.") ? "-15" : "-14");
    }

    private static void bytesOfClassTypes() {
        each("D", Calls::world, b -> among(b, "<.[") ? "-12" : "-11");
        each("D.", Calls::world, b -> "-12");
        each("C.", Calls::world, b -> b == 'E' ? "C.E" : "-12");
        each("C<A,?>.E<A>.", Calls::world, b -> b == 'F' ? "C<A,?>.E<A>.F" : "-22");
        each("B<", Calls::world, b -> among(b, "+-?ABCDabcdef") ? "-13" : "-12");
        each("B<A", Calls::world, b -> b == '>' ? "B<A>" : among(b, ",<[.") ? "-14" : "-13");
        each("B<?", Calls::world, b -> b == '>' ? "B<?>" : b == ',' ? "-14" : "-13");
        each("B<+", Calls::world, b -> among(b, "ABCDabcdef") ? "-14" : "-13");
        each("B<-", Calls::world, b -> among(b, "ABCDabcdef") ? "-14" : "-13");
        each("C<A,", Calls::world, b -> among(b, "+-?ABCDabcdef") ? "-15" : "-14");
        each("C<A,?", Calls::world, b -> b == '>' ? "C<A,?>" : b == ',' ? "-16" : "-15");
        each("B<b0", Calls::world, b -> b == '>' ? "B<b0>" : among(b, ",[") ? "-15" : "-14");
        each("B<4", Calls::world, b -> b == '[' ? "-14" : "-12");
        each("B<8", Calls::world, b -> b == '[' ? "-13" : "-12");
        each("B<4[]", Calls::world, b -> b == '>' ? "B<4[]>" : among(b, ",[") ? "-16" : "-15");
    }

    private static Calls twelve() {
        Calls x = new Calls();
        for (int d = 1; d < 12; d++) {
            due("declare", x.declare(INTERFACE, d == 11 ? 3 : 0, NONE), d);
        }
        return x;
    }

    private static void lettersOfAllTwelve() {
        String upper = "ABCDEFGHIJKL";
        each("", TermsBoundaryTest::twelve, b -> among(b, upper) || b >= '0' && b <= '9' ? "" + (char) b
                : b >= 'a' && b <= 'l' ? "-11" : "-10");
        each("l", TermsBoundaryTest::twelve, b -> b >= '0' && b <= '2' ? "l" + (char) b : "-11");
        each("k", TermsBoundaryTest::twelve, b -> "-11");
    }

    private static void argumentsOfATextAreThree() {
        each("B<?,?,?", () -> one(CLASS, 3), b -> b == '>' ? "B<?,?,?>" : "-17");
        each("B<A,A,A", () -> one(CLASS, 3), b -> b == '>' ? "B<A,A,A>" : among(b, "<[.") ? "-18" : "-17");
        each("B<A,A", () -> one(CLASS, 3), b -> b == '>' ? "-10" : among(b, ",<[.") ? "-16" : "-15");
        each("B<A,A,A", () -> one(CLASS, 2), b -> b == '>' ? "-10" : among(b, "<[.") ? "-18" : "-17");
    }

    private static void fault(Calls x, String text, int place) {
        String state = x.state();
        due("FAULT of " + text, x.read(text), -10 - place);
        due("FAULT of " + text + ": what is there behind it", x.state(), state);
        due("FAULT of " + text + ": THE TAPE", x.count(3), 0);
    }

    private static void faultOfWhatMakeRefuses() {
        Calls x = Calls.world();
        due("BOUND", x.bound(1, 0, x.read("D")), 1);
        String[] faults = {"D<A>", "C<A>", "B<D,D>", "C<D,D,D>", "E", "E<A>", "D.E", "D.D", "C.E<A>", "C.F", "B<A>"};
        int[] places = {0, 0, 0, 0, 0, 0, 2, 2, 2, 2, 0};
        for (int i = 0; i < faults.length; i++) {
            fault(x, faults[i], places[i]);
            fault(x, faults[i] + "!", places[i]);
            fault(x, "B<+" + faults[i], places[i] + 3);
            fault(x, faults[i] + "[", places[i]);
        }
        fault(x, "C<A,A>.E<A>.E", 12);
        fault(x, "C<A,A>.E<A,A>.G", 7);
        fault(x, "C<B<A>,A,A,!", 2);
    }

    /** What make() would refuse is seen behind the part's last byte only. */
    private static void faultAheadOfWhatMakeRefuses() {
        Calls x = Calls.world();
        fault(x, "E<", 2);
        fault(x, "E<!", 2);
        fault(x, "E<A", 3);
        fault(x, "D<A,", 4);
        fault(x, "C.E<A", 5);
        fault(x, "C.E<4", 4);
        fault(x, "D<8[", 3);
        fault(x, "D<4[", 4);
    }

    private static void faultOfNoArgument() {
        Calls x = Calls.world();
        for (int digit = 0; digit <= 9; digit++) {
            fault(x, "B<" + digit + ">", 2);
            fault(x, "B<+" + digit, 3);
            fault(x, "C<A,-" + digit + "!", 5);
        }
        due("an ARRAY can be one", x.text(x.read("B<4[]>")), "B<4[]>");
    }

    private static void faultOfTheEmptyTape() {
        Calls x = new Calls();
        refused("read of nothing", x, Calls::read, -10);
        refused("read of nothing again", x, Calls::read, -10);
    }

    /** The longest TEXTS: no TEXT of 100 bytes has a SIZE above 60, or is refused for its depth. */
    private static void textsOf100Bytes() {
        Calls x = one(CLASS, 1);
        String array = "b0" + dimensions(49);
        int node = x.read(array);
        due("49 dimensions", x.text(node), array);
        String nested = "B<".repeat(33) + "A" + ">".repeat(33);
        due("100 bytes", nested.length(), 100);
        due("33 deep", x.text(x.read(nested)), nested);
        fault(x, "B<".repeat(50), 100);
        fault(x, "B<".repeat(49) + "A>", 100);
        fault(x, "4" + dimensions(49) + "[", 100);
        fault(x, "b0" + dimensions(48) + "[!", 99);
        Calls wide = one(CLASS, 3);
        String three = "B<A,A,A>";
        String nine = "B<" + three + "," + three + "," + three + ">";
        String text = "B<" + nine + "," + nine + ",B<" + three + "," + three + "," + "B<A,A[],A>>>[][][]";
        due("100 bytes", text.length(), 100);
        due("wide", wide.text(wide.read(text)), text);
    }

    private static void run(String about, Runnable... tests) {
        Check.about(about);
        for (Runnable test : tests) {
            test.run();
        }
    }

    public static void main(String[] args) {
        run("512 calls", TermsBoundaryTest::at512Calls);
        run("DECLARATIONS", TermsBoundaryTest::objectIsThereAtFirst, TermsBoundaryTest::declarationsAreTwelve,
                TermsBoundaryTest::kindsAreThree, TermsBoundaryTest::parametersAreNoneToThree,
                TermsBoundaryTest::outerOnesAreLesser);
        run("TYPES", TermsBoundaryTest::typesAreTheseNumbers, TermsBoundaryTest::argumentsAreAsManyAsParametersOrNone,
                TermsBoundaryTest::rawByAnOuterType);
        run("NODES", TermsBoundaryTest::equalNodesAreOne, TermsBoundaryTest::partsComeAheadInOrder,
                TermsBoundaryTest::nodesAre200, TermsBoundaryTest::fullIsNoRefusalOfWhatIsThere,
                TermsBoundaryTest::roomIsRefusedToOneCallOnly, TermsBoundaryTest::placesOfRefusedNodesAreFree);
        run("SIZE", TermsBoundaryTest::sizesAre60, TermsBoundaryTest::sizesAre60OfWhatIsErased,
                TermsBoundaryTest::sizesAre60OfWhatIsAbove, TermsBoundaryTest::sizesAre60OfWhatIsPutIn,
                TermsBoundaryTest::sizeCountsPartsAsOftenAsTheyStandThere, TermsBoundaryTest::outerTypesAreParts,
                TermsBoundaryTest::whatIsOnTheWayMayBeLarge);
        run("BOUNDS and PARENTS", TermsBoundaryTest::boundsAreThree, TermsBoundaryTest::parentsAreThree,
                TermsBoundaryTest::boundsAreAsTold, TermsBoundaryTest::parentsAreAsTold,
                TermsBoundaryTest::aVariableAsABoundIsAlone);
        run("ERASED and SUPER", TermsBoundaryTest::erasedWithoutBounds, TermsBoundaryTest::superOfTheLongestChain,
                TermsBoundaryTest::superOfTheWidestTree, TermsBoundaryTest::outerTypesGoOnToTheLast);
        run("BELOW", TermsBoundaryTest::argumentsAreInOneAnother, TermsBoundaryTest::belowIsFourDeepAtMost,
                TermsBoundaryTest::boundsAreOneDeeperEach, TermsBoundaryTest::theFirstBoundThatIsBelowTells,
                TermsBoundaryTest::boundsOfWhatIsMadeAreAskedFirst,
                TermsBoundaryTest::belowOfTheLongestChains);
        run("TEXT", TermsBoundaryTest::bytesOfATextsBegin, TermsBoundaryTest::bytesOfArrays,
                TermsBoundaryTest::bytesOfClassTypes, TermsBoundaryTest::lettersOfAllTwelve,
                TermsBoundaryTest::argumentsOfATextAreThree, TermsBoundaryTest::textsOf100Bytes);
        run("FAULT", TermsBoundaryTest::faultOfWhatMakeRefuses, TermsBoundaryTest::faultAheadOfWhatMakeRefuses,
                TermsBoundaryTest::faultOfNoArgument, TermsBoundaryTest::faultOfTheEmptyTape);
        Check.end();
    }
}
