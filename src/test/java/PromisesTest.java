/** Each promise of the document: ordinary inputs, the edges that it names, and wrong inputs. */
public final class PromisesTest {
    private static final int NONE = -1, UNKNOWN = -2, OUTSIDE = -3, ROOM = -5;
    private static final int CLASS = 0, INTERFACE = 1, EXCEPTION = 2;
    private static final int EXACT = 0, UP_TO = 1, FROM = 2, ANY = 3;
    private static final int VOID = 8, NULL = 9, OBJECT = 10;

    private static void due(String call, long got, long want) {
        Check.due(call, got, want);
    }

    private static void due(String call, String got, String want) {
        Check.due(call, got, want);
    }

    private static void below(Calls x, String a, String b, int want) {
        int first = x.read(a);
        int second = x.read(b);
        int nodes = x.count(1);
        due("below of " + a + " and " + b, x.below(first, second), want);
        due("NODES behind below", x.count(1), nodes);
    }

    private static void member(Calls x, String type, String by, String want) {
        int first = x.read(type);
        int second = x.read(by);
        due("member of " + type + " by " + by, x.text(x.member(first, second)), want);
    }

    private static void above(Calls x, String type, int declaration, String want) {
        due("above of " + type + " for " + declaration, x.text(x.above(x.read(type), declaration)), want);
    }

    private static void erased(Calls x, String type, String want) {
        due("erased of " + type, x.text(x.erased(x.read(type))), want);
    }

    private static void newObject() {
        Calls x = new Calls();
        int[] counts = {1, 11, 0, 0, 0, 0};
        for (int i = 0; i < counts.length; i++) {
            due("count " + i, x.count(i), counts[i]);
        }
        due("count 20", x.count(20), 0);
        for (int i = 0; i < 8; i++) {
            due("about " + i, x.about(i, 0), 0);
        }
        due("about VOID", x.about(VOID, 0), 1);
        due("about NULL", x.about(NULL, 0), 2);
        due("about OBJECT", x.about(OBJECT, 0), 5);
        due("OBJECT's DECLARATION", x.about(OBJECT, 1), 0);
        due("about 11", x.about(11, 0), UNKNOWN);
        due("out", x.out(0), NONE);
        due("make OBJECT", x.make(0, NONE), OBJECT);
        due("constants", TypeForms2.NONE * 1000 + TypeForms2.UNKNOWN * 100 + TypeForms2.OUTSIDE * 10 + TypeForms2.ROOM,
                -1235);
    }

    private static void declare() {
        Calls x = new Calls();
        due("outer unknown", x.declare(9, 9, 1), UNKNOWN);
        due("outer below NONE", x.declare(CLASS, 0, -2), UNKNOWN);
        due("kind 3", x.declare(3, 0, NONE), OUTSIDE);
        due("kind -1", x.declare(-1, 0, NONE), OUTSIDE);
        due("4 parameters", x.declare(EXCEPTION, 4, NONE), OUTSIDE);
        due("-1 parameters", x.declare(CLASS, -1, NONE), OUTSIDE);
        due("exception with a parameter", x.declare(EXCEPTION, 1, NONE), -101);
        due("nothing came", x.count(0) * 100 + x.count(1), 111);
        due("in OBJECT", x.declare(CLASS, 3, 0), 1);
        due("variables", x.count(1), 14);
        due("variable's place", x.about(13, 2), 2);
        due("variable's declaration", x.about(13, 1), 1);
        for (int i = 2; i < 12; i++) {
            due("declaration " + i, x.declare(i % 3, 0, i - 1), i);
        }
        int nodes = x.count(1);
        due("a thirteenth", x.declare(CLASS, 3, NONE), ROOM);
        due("no variables of it", x.count(1), nodes);
        due("a thirteenth exception with a parameter", x.declare(EXCEPTION, 1, NONE), -101);
        Calls full = new Calls();
        full.fill(198);
        due("variables without room", full.declare(CLASS, 3, NONE), ROOM);
        due("none came", full.count(0) * 1000 + full.count(1), 1198);
        due("variables with room", full.declare(CLASS, 2, NONE), 1);
        due("no variables", full.declare(CLASS, 0, NONE), 2);
    }

    private static void variable() {
        Calls x = Calls.world();
        due("c1", x.variable(2, 1), 13);
        due("e0", x.variable(4, 0), 14);
        due("c2", x.variable(2, 2), UNKNOWN);
        due("c-1", x.variable(2, -1), UNKNOWN);
        due("a0", x.variable(0, 0), UNKNOWN);
        due("of none", x.variable(6, 0), UNKNOWN);
        due("of -1", x.variable(-1, 0), UNKNOWN);
    }

    private static void bound() {
        Calls x = Calls.world();
        int bOfC0 = x.read("B<c0>");
        int upToC0 = x.read("B<+c0>");
        int bOfB0 = x.read("B<b0>");
        int d = x.read("D");
        due("unknown declaration", x.bound(6, 0, 10), UNKNOWN);
        due("unknown place", x.bound(2, 2, 10), UNKNOWN);
        due("unknown node", x.bound(2, 0, 200), UNKNOWN);
        due("a primitive", x.bound(2, 0, 4), -102);
        due("an array", x.bound(2, 0, x.read("A[]")), -102);
        due("a variable of another", x.bound(2, 0, 11), -102);
        due("up to a variable", x.bound(2, 0, upToC0), -102);
        due("of a variable of another", x.bound(2, 0, bOfB0), -102);
        due("an array of a variable", x.bound(2, 0, x.read("B<c0[]>")), -102);
        due("an outer type with a variable", x.bound(4, 0, x.read("C<e0,A>.E<A>")), -102);
        due("itself", x.bound(2, 0, 12), -106);
        due("the other", x.bound(2, 0, 13), 1);
        due("back to it", x.bound(2, 1, 12), -106);
        due("another beside a variable", x.bound(2, 0, bOfC0), -104);
        due("a class first", x.bound(2, 1, d), 1);
        due("a variable beside others", x.bound(2, 1, 13), -104);
        due("no interface second", x.bound(2, 1, OBJECT), -105);
        due("an interface second", x.bound(2, 1, bOfC0), 2);
        due("the same third", x.bound(2, 1, bOfC0), 3);
        due("a fourth", x.bound(2, 1, bOfC0), ROOM);
        due("a fourth that is no interface", x.bound(2, 1, d), -105);
        due("all bounds", x.count(7), 4);
        due("any argument", x.bound(4, 0, x.read("B<?>")), 1);
        Calls y = new Calls();
        y.declare(CLASS, 3, NONE);
        due("0 by 1", y.bound(1, 0, 12), 1);
        due("1 by 2", y.bound(1, 1, 13), 1);
        due("2 by 0", y.bound(1, 2, 11), -106);
    }

    private static void parent() {
        Calls x = Calls.world();
        x.declare(INTERFACE, 1, NONE);
        due("of OBJECT", x.parent(0, 10), UNKNOWN);
        due("of none", x.parent(7, 10), UNKNOWN);
        due("no node", x.parent(2, 200), UNKNOWN);
        due("an own variable", x.parent(2, 12), -102);
        due("of another's variable", x.parent(2, x.read("B<b0>")), -102);
        due("an outer type with a variable", x.parent(6, x.read("C<g0,A>.E")), -102);
        due("the same", x.parent(2, x.read("C<c1,c0>")), -107);
        due("a greater", x.parent(2, x.read("D")), -107);
        due("a class of an interface", x.parent(6, x.read("D")), -108);
        due("an interface of an interface", x.parent(6, x.read("B<g0>")), 1);
        due("OBJECT of an interface", x.parent(6, OBJECT), -108);
        due("a class of a class", x.parent(3, OBJECT), 1);
        due("a second class", x.parent(3, OBJECT), -108);
        int b = x.read("B<D>");
        due("an interface second", x.parent(3, b), 2);
        due("third", x.parent(3, b), 3);
        due("fourth", x.parent(3, b), ROOM);
        due("an interface first", x.parent(2, b), 1);
        due("a class of an exception", x.parent(5, x.read("D")), 1);
        due("parents", x.count(23) * 10 + x.count(22), 31);
    }

    private static void argument() {
        Calls x = Calls.world();
        due("unknown", x.argument(EXACT, 200), UNKNOWN);
        due("unknown and outside", x.argument(4, -1), UNKNOWN);
        due("outside", x.argument(4, 0), OUTSIDE);
        due("outside below", x.argument(-1, 10), OUTSIDE);
        due("a primitive", x.argument(EXACT, 7), -109);
        due("VOID", x.argument(UP_TO, VOID), -109);
        due("NULL", x.argument(FROM, NULL), -109);
        due("none came", x.count(2), 0);
        due("any", x.argument(ANY, -7), 1);
        due("a variable", x.argument(UP_TO, 11), 2);
        due("a class", x.argument(FROM, 10), 3);
        due("a fourth", x.argument(EXACT, 10), ROOM);
        due("a fourth primitive", x.argument(EXACT, 0), -109);
        due("draft", x.count(2), 3);
    }

    private static void make() {
        Calls x = Calls.world();
        x.argument(EXACT, 10);
        due("unknown", x.make(6, NONE), UNKNOWN);
        due("draft taken", x.count(2), 0);
        due("unknown outer", x.make(4, 200), UNKNOWN);
        due("outer below NONE", x.make(1, -2), UNKNOWN);
        x.argument(EXACT, 10);
        due("one for two, outer wrong", x.make(2, 10), -110);
        x.argument(ANY, 0);
        due("one for none", x.make(3, NONE), -110);
        due("outer for none", x.make(1, 10), -111);
        due("no outer", x.make(4, NONE), -111);
        due("outer of another", x.make(4, 10), -111);
        due("outer no class type", x.make(4, 12), -111);
        int raw = x.make(2, NONE);
        x.argument(EXACT, 10);
        due("arguments in a raw one", x.make(4, raw), -112);
        due("raw in a raw one", x.text(x.make(4, raw)), "C.E");
        int c = x.read("C<A,?>");
        x.argument(FROM, 11);
        int e = x.make(4, c);
        due("inner", x.text(e), "C<A,?>.E<-b0>");
        due("raw in one with arguments", x.text(x.make(4, c)), "C<A,?>.E");
        x.argument(FROM, 11);
        due("the same again", x.make(4, c), e);
        madeBounds();
        Calls full = Calls.world();
        int b = full.read("B<A>");
        full.fill(200);
        full.argument(EXACT, 10);
        due("there already", full.make(1, NONE), b);
        full.argument(ANY, 10);
        due("no room", full.make(1, NONE), ROOM);
        due("draft taken then", full.count(2), 0);
        due("refused before room", full.make(4, NONE), -111);
        Calls large = new Calls();
        large.declare(CLASS, 1, NONE);
        int node = OBJECT;
        for (int size = 2; size <= 60; size++) {
            large.argument(EXACT, node);
            node = large.make(1, NONE);
        }
        due("size 60", node, 70);
        large.argument(EXACT, node);
        due("size 61", large.make(1, NONE), ROOM);
        due("array of size 61", large.array(node), ROOM);
    }

    private static void madeBounds() {
        Calls x = Calls.world();
        int d = x.read("D");
        x.parent(3, x.read("B<D>"));
        x.bound(2, 0, x.read("B<c0>"));
        x.bound(2, 1, 12);
        x.argument(EXACT, d);
        x.argument(EXACT, d);
        due("D is a B<D>", x.text(x.make(2, NONE)), "C<D,D>");
        x.argument(EXACT, OBJECT);
        x.argument(EXACT, d);
        due("OBJECT is none", x.make(2, NONE), -113);
        x.argument(UP_TO, OBJECT);
        x.argument(EXACT, d);
        due("up to is not looked at", x.text(x.make(2, NONE)), "C<+A,D>");
        x.argument(ANY, 0);
        x.argument(EXACT, d);
        due("any: the variable erased", x.text(x.make(2, NONE)), "C<?,D>");
        x.argument(ANY, 0);
        x.argument(EXACT, OBJECT);
        due("OBJECT is not the erased one", x.make(2, NONE), -113);
        x.argument(EXACT, x.read("B"));
        x.argument(EXACT, x.read("B"));
        due("unchecked is enough", x.text(x.make(2, NONE)), "C<B,B>");
        x.bound(4, 0, x.read("D"));
        x.bound(4, 0, x.read("B<A>"));
        x.argument(EXACT, d);
        due("below one bound only", x.make(4, x.read("C<D,D>")), -113);
    }

    private static void array() {
        Calls x = Calls.world();
        due("int[]", x.text(x.array(4)), "4[]");
        due("the same", x.array(4), x.array(4));
        due("b0[]", x.text(x.array(11)), "b0[]");
        due("int[][]", x.text(x.array(x.array(4))), "4[][]");
        due("of VOID", x.array(VOID), -114);
        due("of NULL", x.array(NULL), -114);
        due("of none", x.array(-1), UNKNOWN);
        due("of none above", x.array(x.count(1)), UNKNOWN);
        x.fill(200);
        due("no room", x.array(OBJECT), ROOM);
    }

    private static void aboutNodes() {
        Calls x = Calls.world();
        int node = x.read("C<+b0[],?>.E<-A>");
        int outer = x.about(node, 4);
        int[] inner = {5, 4, -1, -1, outer, 1, FROM, -1, -1, OBJECT, -1, -1, 0};
        int[] around = {5, 2, -1, -1, -1, 2, UP_TO, ANY, -1, x.read("b0[]"), -1, -1, 0};
        int[] array = {4, -1, -1, 11, -1, 0, -1, -1, -1, -1, -1, -1, 0};
        int[] variable = {3, 2, 1, -1, -1, 0, -1, -1, -1, -1, -1, -1, 0};
        int[] raw = {5, 5, -1, -1, x.read("C.E"), 0, -1, -1, -1, -1, -1, -1, 1};
        int[] bool = {0, -1, -1, -1, -1, 0, -1, -1, -1, -1, -1, -1, 0};
        int[] nodes = {node, outer, x.read("b0[]"), 13, x.read("C.E.F"), 0};
        int[][] all = {inner, around, array, variable, raw, bool};
        for (int i = 0; i < all.length; i++) {
            for (int what = 0; what <= 12; what++) {
                due("about " + nodes[i] + ", " + what, x.about(nodes[i], what), all[i][what]);
            }
        }
        due("raw by no arguments", x.about(x.read("C<A,A>.E"), 12), 1);
        due("not raw", x.about(x.read("C<A,A>.E<?>.F"), 12), 0);
        due("an array of raw", x.about(x.read("B[]"), 12), 0);
        due("what 13", x.about(10, 13), UNKNOWN);
        due("what -1", x.about(10, -1), UNKNOWN);
        due("no node", x.about(x.count(1), 0), UNKNOWN);
    }

    private static void belowPlain() {
        Calls x = Calls.world();
        String[] rows = {"1.......", ".11.1111", "..1.1111", "...11111", "....1111", ".....111", "......11", ".......1"};
        for (int a = 0; a < 8; a++) {
            for (int b = 0; b < 8; b++) {
                due("below " + a + ", " + b, x.below(a, b), rows[a].charAt(b) == '1' ? 1 : 0);
            }
            due("primitive and OBJECT", x.below(a, OBJECT), 0);
            due("NULL and primitive", x.below(NULL, a), 0);
            due("primitive and NULL", x.below(a, NULL), 0);
        }
        due("VOID", x.below(VOID, VOID), 1);
        due("VOID and OBJECT", x.below(VOID, OBJECT), 0);
        due("OBJECT and VOID", x.below(OBJECT, VOID), 0);
        due("NULL", x.below(NULL, NULL), 1);
        due("NULL and OBJECT", x.below(NULL, OBJECT), 1);
        due("NULL and VOID", x.below(NULL, VOID), 0);
        due("OBJECT and NULL", x.below(OBJECT, NULL), 0);
        due("unknown", x.below(10, x.count(1)), UNKNOWN);
        due("unknown a", x.below(-1, 10), UNKNOWN);
        below(x, "9", "b0", 1);
        below(x, "9", "4[]", 1);
        below(x, "4[]", "A", 1);
        below(x, "b0", "A", 1);
        below(x, "b0", "9", 0);
        below(x, "b0", "c0", 0);
        below(x, "A", "b0", 0);
        below(x, "1[]", "4[]", 0);
        below(x, "4[]", "A[]", 0);
        below(x, "A[]", "4[]", 0);
        below(x, "4[][]", "A[]", 1);
        below(x, "D[]", "A[]", 1);
        below(x, "A[]", "D[]", 0);
        below(x, "A[]", "D", 0);
        below(x, "D[][][][]", "A[][][][]", 1);
        below(x, "D[][][][][]", "A[][][][][]", 0);
        below(x, "D[][][][][][]", "D[][][][][][]", 1);
    }

    private static void belowClasses() {
        Calls x = Calls.world();
        below(x, "B", "B<A>", 2);
        below(x, "B<A>", "B", 1);
        below(x, "B[]", "B<A>[]", 2);
        below(x, "B<D>", "B<A>", 0);
        below(x, "B<D>", "B<+A>", 1);
        below(x, "B<+D>", "B<+A>", 1);
        below(x, "B<A>", "B<+D>", 0);
        below(x, "B<-D>", "B<+A>", 0);
        below(x, "B<?>", "B<+A>", 0);
        below(x, "B<+A>", "B<?>", 1);
        below(x, "B<-A>", "B<?>", 1);
        below(x, "B<A>", "B<-D>", 1);
        below(x, "B<-A>", "B<-D>", 1);
        below(x, "B<D>", "B<-A>", 0);
        below(x, "B<+D>", "B<-D>", 0);
        below(x, "B<?>", "B<-D>", 0);
        below(x, "B<+A>", "B<A>", 0);
        below(x, "B<?>", "B<A>", 0);
        below(x, "B<B>", "B<+B<A>>", 2);
        below(x, "B<B<A>>", "B<-B>", 2);
        below(x, "B<B>", "B<B<A>>", 0);
        below(x, "C<B,D>", "C<+B<A>,D>", 2);
        below(x, "C<D,B>", "C<D,+B<A>>", 2);
        below(x, "C<B,A>", "C<+B<A>,D>", 0);
        below(x, "C<A,A>.E<D>", "C<A,A>.E<+A>", 1);
        below(x, "C<A,D>.E<D>", "C<A,?>.E<+A>", 0);
        below(x, "C<A,D>.E", "C<A,A>.E<A>", 2);
        below(x, "C<A,D>.E<A>", "C.E", 1);
        below(x, "C<A,A>.E<A>.F", "C<A,A>.E<D>.F", 0);
        below(x, "C.E.F", "C<A,A>.E<D>.F", 2);
        below(x, "D", "B<A>", 0);
        below(x, "B<B<B<B<D>>>>", "B<+B<+B<+B<+A>>>>", 1);
        below(x, "B<B<B<B<B<D>>>>>", "B<+B<+B<+B<+B<+A>>>>>", 0);
        below(x, "B<B<B<B<A>>>>", "B<-B<-B<-B<-D>>>>", 0);
        below(x, "B<-B<+B<-B<D>>>>", "B<-B<B<-B<+A>>>>", 1);
        below(x, "B<-B<+B<-B<B<D>>>>>", "B<-B<B<-B<+B<?>>>>>", 1);
        below(x, "B<-B<+B<-B<B<D>>>>>", "B<-B<B<-B<+B<+A>>>>>", 0);
        belowBounds();
        belowParents();
    }

    private static void belowBounds() {
        Calls x = Calls.world();
        due("c0 by c1", x.bound(2, 0, 13), 1);
        due("c1 by B", x.bound(2, 1, x.read("B")), 1);
        due("c1 by B<D>", x.bound(2, 1, x.read("B<D>")), 2);
        below(x, "c0", "c1", 1);
        below(x, "c1", "c0", 0);
        below(x, "c0", "B", 1);
        below(x, "c1", "B<D>", 2);
        below(x, "c0[]", "B<A>[]", 2);
        below(x, "c0", "D", 0);
        below(x, "B<c0>", "B<+c1>", 1);
        Calls y = Calls.world();
        y.bound(2, 1, y.read("B<D>"));
        y.bound(2, 1, y.read("B"));
        below(y, "c1", "B<A>", 2);
        below(y, "c1", "B<D>", 1);
    }

    private static void belowParents() {
        Calls x = Calls.world();
        x.parent(2, x.read("B<c1>"));
        x.parent(3, x.read("C<D,B>"));
        below(x, "C<A,D>", "B<D>", 1);
        below(x, "C<A,D>", "B<A>", 0);
        below(x, "C<A,?>", "B<?>", 1);
        below(x, "C<A,+D>", "B<+A>", 1);
        below(x, "C", "B<A>", 2);
        below(x, "C", "B", 1);
        below(x, "D", "B<B>", 1);
        below(x, "D", "B<+B<A>>", 2);
        below(x, "D[]", "B<?>[]", 1);
        below(x, "B<A>", "C<A,A>", 0);
    }

    private static void erased() {
        Calls x = Calls.world();
        due("unknown", x.erased(x.count(1)), UNKNOWN);
        due("unknown below", x.erased(-1), UNKNOWN);
        for (int i = 0; i <= OBJECT; i++) {
            due("stays", x.erased(i), i);
        }
        erased(x, "b0", "A");
        erased(x, "b0[]", "A[]");
        erased(x, "B<A>", "B");
        erased(x, "C<A,A>.E<A>.F[][]", "C.E.F[][]");
        erased(x, "C<A,A>.E", "C.E");
        x.bound(2, 0, 13);
        x.bound(2, 1, x.read("C<c0,c1>"));
        x.bound(2, 1, x.read("B<A>"));
        erased(x, "c0", "C");
        erased(x, "c1[]", "C[]");
        Calls chain = new Calls();
        chain.declare(CLASS, 3, NONE);
        chain.bound(1, 0, 12);
        chain.bound(1, 1, 13);
        chain.bound(1, 2, chain.read("B<b0,b1,b2>"));
        erased(chain, "b0", "B");
        Calls order = Calls.world();
        int node = order.read("C<A,A>.E<A>.F");
        int before = order.count(1);
        due("parts ahead", order.erased(node), before + 2);
        due("C first", order.text(before), "C");
        due("C.E next", order.text(before + 1), "C.E");
        Calls full = Calls.world();
        int inner = full.read("C<A,A>.E<A>.F");
        full.fill(198);
        due("no room", full.erased(inner), ROOM);
        due("none came", full.count(1), 198);
        due("two have room", full.text(full.erased(full.read("C<A,A>.E<A>"))), "C.E");
    }

    private static void whole() {
        Calls x = Calls.world();
        for (int i = 0; i <= OBJECT; i++) {
            due("whole " + i, x.whole(i), 1);
        }
        String[] wholes = {"4[]", "A[][]", "B", "B[]", "B<?>", "C<?,?>[]", "C<?,?>.E<?>", "C<?,?>.E<?>.F", "C.E",
            "C<A,A>.E"};
        for (String s : wholes) {
            due("whole " + s, x.whole(x.read(s)), 1);
        }
        String[] others = {"b0", "b0[]", "B<A>", "B<+A>", "C<?,A>", "C<?,-A>[]", "C<A,?>.E<?>", "C<?,?>.E<A>.F",
            "C<A,?>.E<?>.F"};
        for (String s : others) {
            due("whole " + s, x.whole(x.read(s)), 0);
        }
        due("unknown", x.whole(x.count(1)), UNKNOWN);
        due("unknown below", x.whole(-1), UNKNOWN);
    }

    private static void aboves() {
        Calls x = Calls.world();
        x.declare(INTERFACE, 1, NONE);
        x.declare(CLASS, 3, NONE);
        x.parent(2, x.read("B<c1>"));
        x.parent(6, x.read("B<D>"));
        x.parent(6, x.read("B<g0>"));
        x.parent(7, x.read("C<h2,h0>"));
        x.parent(7, x.read("G<h1>"));
        due("unknown", x.above(x.count(1), 0), UNKNOWN);
        due("unknown declaration", x.above(10, 8), UNKNOWN);
        due("a variable", x.above(11, 1), UNKNOWN);
        due("an array", x.above(x.read("A[]"), 0), UNKNOWN);
        due("NULL", x.above(NULL, 0), UNKNOWN);
        due("itself", x.above(10, 0), 10);
        above(x, "B<A>", 0, "-1");
        above(x, "A", 1, "-1");
        above(x, "C<A,+D>", 1, "B<+D>");
        above(x, "C", 1, "B");
        above(x, "G<A>", 1, "B<D>");
        above(x, "H<A,D,?>", 2, "C<?,A>");
        above(x, "H<A,D,?>", 1, "B<A>");
        above(x, "H<A,D,?>", 6, "G<D>");
        above(x, "H", 1, "B");
        Calls large = new Calls();
        large.declare(INTERFACE, 3, NONE);
        large.declare(INTERFACE, 1, NONE);
        large.declare(INTERFACE, 1, NONE);
        large.parent(2, large.read("B<c0,c0,c0>"));
        large.parent(3, large.read("C<d0>"));
        above(large, "D<A" + "[]".repeat(18) + ">", 1, "B<" + ("A" + "[]".repeat(18) + ",").repeat(2)
                + "A" + "[]".repeat(18) + ">");
        int nodes = large.count(1);
        due("too large", large.above(large.read("D<A" + "[]".repeat(19) + ">"), 1), ROOM);
        due("only what was read came", large.count(1), nodes + 2);
    }

    private static void members() {
        Calls x = Calls.world();
        due("unknown", x.member(x.count(1), 10), UNKNOWN);
        due("unknown by", x.member(10, x.count(1)), UNKNOWN);
        due("by a variable", x.member(10, 11), UNKNOWN);
        due("by an array", x.member(10, x.read("A[]")), UNKNOWN);
        x.bound(1, 0, x.read("D"));
        member(x, "b0", "B<D>", "D");
        member(x, "b0", "B<+A>", "A");
        member(x, "b0", "B<-A>", "D");
        member(x, "b0", "B<?>", "D");
        member(x, "b0[]", "B<?>", "D[]");
        member(x, "b0", "B", "D");
        member(x, "C<b0,c0>[]", "B", "C[]");
        member(x, "c0", "B", "A");
        member(x, "c0", "B<D>", "c0");
        member(x, "C<b0,c1>", "B<D>", "C<D,c1>");
        String[] tellers = {"D", "+A", "-A", "?"};
        String[] wilds = {"", "+", "-"};
        String[][] told = {{"D", "+A", "-A", "?"}, {"+D", "+A", "?", "?"}, {"-D", "?", "-A", "?"}};
        for (int i = 0; i < wilds.length; i++) {
            for (int k = 0; k < tellers.length; k++) {
                member(x, "C<" + wilds[i] + "b0,?>", "B<" + tellers[k] + ">", "C<" + told[i][k] + ",?>");
            }
        }
        member(x, "C<+b0[],A>", "B<?>", "C<+D[],A>");
        member(x, "C<C<b0,A>,A>", "B<?>", "C<C<?,A>,A>");
        member(x, "C<e0,c1>.E<c0>", "C<D,+A>.E<A>.F", "C<A,+A>.E<D>");
        member(x, "C<e0,c1>.E<c0>", "C<D,A>.E.F", "C.E");
        member(x, "4", "B", "4");
        Calls large = new Calls();
        large.declare(CLASS, 1, NONE);
        int nodes = 12;
        due("30 dimensions", large.read("b0" + "[]".repeat(30)), nodes + 29);
        int by = large.read("B<A" + "[]".repeat(28) + ">");
        due("size 59", large.about(large.member(nodes + 29, by), 0), 4);
        by = large.read("B<A" + "[]".repeat(30) + ">");
        nodes = large.count(1);
        due("size 61", large.member(41, by), ROOM);
        due("none came", large.count(1), nodes);
    }

    private static void feed() {
        Calls x = new Calls();
        due("none", x.feed(0, 52), OUTSIDE);
        due("nine", x.feed(9, 52), OUTSIDE);
        due("many", x.feed(Integer.MIN_VALUE, 52), OUTSIDE);
        due("three of eight", x.feed(3, 0x7777777777345B5DL), 3);
        due("4[]", x.text(x.read()), "4[]");
        due("taken", x.count(3), 0);
        due("a high byte", x.feed(1, -1), 1);
        due("no such letter", x.read(), -10);
        for (int i = 1; i <= 12; i++) {
            due("eight", x.feed(8, 0x345B5D5B5D5B5D5BL), 8 * i);
        }
        due("too many", x.feed(5, 0), ROOM);
        due("stays", x.count(3), 96);
        due("full", x.feed(4, 0), 100);
        due("one more", x.feed(1, 0), ROOM);
        due("outside when full", x.feed(0, 0), OUTSIDE);
    }

    private static void reads() {
        Calls x = Calls.world();
        due("parts ahead, in order", x.read("C<+B<D>,-4[]>.E<B<A>[]>"), 21);
        String[] parts = {"D", "B<D>", "4[]", "C<+B<D>,-4[]>", "B<A>", "B<A>[]"};
        for (int i = 0; i < parts.length; i++) {
            due("part " + i, x.text(15 + i), parts[i]);
        }
        for (int i = 0; i <= 9; i++) {
            due("digit", x.read("" + i), i);
        }
        due("variable", x.read("c1"), 13);
        Object[][] faults = {
            {"", 0}, {"4x", 1}, {"4[", 2}, {"4[4", 2}, {"4[]]", 3}, {"8[]", 1}, {"9[", 1}, {"x", 0}, {"m0", 0},
            {"g0", 0}, {"G", 0}, {"b", 1}, {"b1", 1}, {"b<", 1}, {"a0", 1}, {"c2", 1}, {"b0.D", 2}, {"4.D", 1},
            {"D.", 2}, {"D.G", 2}, {"D.4", 2}, {"D.D", 2}, {"D[].D", 3}, {"E", 0}, {"E<A>", 0}, {"E<!", 2},
            {"C.E<A>", 2}, {"C.E<4>", 4}, {"B.E", 2}, {"C<A,A>.F", 7}, {"B<", 2}, {"B<>", 2}, {"B<A", 3}, {"B<A>>", 4},
            {"B<A,", 4}, {"B<A,>", 4}, {"B<A,A>", 0}, {"B<A,A,A,A>", 7}, {"B<A;", 3}, {"D<A>", 0}, {"C<A>", 0},
            {"B<4>", 2}, {"B<+4>", 3}, {"B<-8>", 3}, {"B<9", 2}, {"B<9[", 3}, {"B<?[]>", 3}, {"B<+?>", 3}, {"B<++A>", 3},
            {"+A", 0}, {"?", 0}, {"B<+", 3}, {"B<4[]", 5}, {"C<B<A,A>,", 2}, {"C<A,E>x", 4}, {"A ", 1}, {" A", 0}};
        int nodes = x.count(1);
        for (Object[] row : faults) {
            due("fault of " + row[0], x.read((String) row[0]), -10 - (int) row[1]);
            due("tape taken", x.count(3), 0);
        }
        due("no node came", x.count(1), nodes);
        Calls last = new Calls();
        for (int i = 1; i < 12; i++) {
            last.declare(CLASS, i == 11 ? 3 : 0, NONE);
        }
        due("the last declaration", last.text(last.read("L<l2,l0,l1>")), "L<l2,l0,l1>");
        due("one more letter", last.read("M"), -10);
        x.bound(1, 0, x.read("D"));
        due("below no bound", x.read("B<B<A>>!"), -12);
        x.fill(199);
        due("room for one", x.read("D[]"), 199);
        due("no room", x.read("A[]"), ROOM);
        due("tape taken then", x.count(3), 0);
        due("fault before room", x.read("A[]["), -14);
        due("there already", x.read("D[]"), 199);
    }

    private static void prints() {
        Calls x = Calls.world();
        String[] texts = {"0", "8", "9", "A", "b0", "c1[]", "B", "B<?>", "C<+A,-b0>", "C<A,A>.E<4[][]>.F[]", "C.E.F"};
        for (String s : texts) {
            due("printed", x.text(x.read(s)), s);
            due("length", x.count(4), s.length());
        }
        due("unknown", x.print(x.count(1)), UNKNOWN);
        due("unknown below", x.print(-1), UNKNOWN);
        due("OUT stays", x.count(4), 5);
        Calls y = new Calls();
        y.declare(CLASS, 1, NONE);
        int node = 11;
        for (int i = 0; i < 49; i++) {
            y.argument(UP_TO, node);
            node = y.make(1, NONE);
        }
        due("198 bytes", y.print(node), 198);
        due("200 bytes", y.print(y.array(node)), 200);
        due("202 bytes", y.print(y.array(y.array(node))), ROOM);
        due("OUT stays then", y.count(4), 200);
        due("its last byte", y.out(199), ']');
    }

    private static void outs() {
        Calls x = Calls.world();
        due("empty", x.out(0), NONE);
        x.print(x.read("B<?>"));
        int[] bytes = {'B', '<', '?', '>'};
        for (int i = 0; i < 4; i++) {
            due("byte " + i, x.out(i), bytes[i]);
        }
        due("behind", x.out(4), NONE);
        due("ahead", x.out(-1), NONE);
        due("far", x.out(Integer.MAX_VALUE), NONE);
        x.print(4);
        due("replaced", x.out(0), '4');
        due("no more", x.out(1), NONE);
    }

    private static void counts() {
        Calls x = Calls.world();
        x.bound(2, 0, 13);
        x.bound(2, 1, x.read("B<A>"));
        x.parent(2, x.read("B<A>"));
        x.argument(ANY, 0);
        x.feed(2, 0);
        x.print(13);
        int[] due = {6, 16, 1, 2, 2, 0, 0, 2, 0, 0, 0, UNKNOWN};
        for (int i = 0; i < due.length; i++) {
            due("count " + i, x.count(i), due[i]);
        }
        int[] parents = {UNKNOWN, 0, 0, 1, 0, 0, 0, UNKNOWN};
        for (int i = 0; i < parents.length; i++) {
            due("count " + (19 + i), x.count(19 + i), parents[i]);
        }
        due("count -1", x.count(-1), UNKNOWN);
        due("count of the least", x.count(Integer.MIN_VALUE), UNKNOWN);
        Calls y = new Calls();
        for (int i = 1; i < 12; i++) {
            y.declare(INTERFACE, 0, NONE);
        }
        due("count 16", y.count(16), 0);
        due("count 17", y.count(17), UNKNOWN);
        due("count 31", y.count(31), 0);
        due("count 32", y.count(32), UNKNOWN);
    }

    public static void main(String[] args) {
        for (int promise = 1; promise <= 19; promise++) {
            Check.about("promise " + promise);
            switch (promise) {
                case 1 -> newObject();
                case 2 -> declare();
                case 3 -> variable();
                case 4 -> bound();
                case 5 -> parent();
                case 6 -> argument();
                case 7 -> make();
                case 8 -> array();
                case 9 -> aboutNodes();
                case 10 -> {
                    belowPlain();
                    belowClasses();
                }
                case 11 -> erased();
                case 12 -> whole();
                case 13 -> aboves();
                case 14 -> members();
                case 15 -> feed();
                case 16 -> reads();
                case 17 -> prints();
                case 18 -> outs();
                default -> counts();
            }
        }
        Check.end();
    }
}
