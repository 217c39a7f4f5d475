import java.util.ArrayList;
import java.util.List;
import java.util.function.ToIntFunction;

/** A TypeForms2 with its calls kept, so that no test goes beyond the 512th, and its state can be told by another. */
final class Calls {
    static final int MOST = 512;
    private final TypeForms2 object = new TypeForms2();
    private final List<ToIntFunction<TypeForms2>> made = new ArrayList<>();

    /** B: interface, 1; C: class, 2; D: class; E: class, 1, in C; F: exception, in E. Variables from 11 on. */
    static Calls world() {
        Calls x = new Calls();
        x.declare(1, 1, TypeForms2.NONE);
        x.declare(0, 2, TypeForms2.NONE);
        x.declare(0, 0, TypeForms2.NONE);
        x.declare(0, 1, 2);
        x.declare(2, 0, 4);
        return x;
    }

    private int ask(ToIntFunction<TypeForms2> call) {
        if (made.size() == MOST) {
            throw new IllegalStateException("a test makes more than 512 calls on one object");
        }
        made.add(call);
        return call.applyAsInt(object);
    }

    int number() {
        return made.size();
    }

    int declare(int kind, int parameters, int outer) {
        return ask(x -> x.declare(kind, parameters, outer));
    }

    int variable(int declaration, int place) {
        return ask(x -> x.variable(declaration, place));
    }

    int bound(int declaration, int place, int node) {
        return ask(x -> x.bound(declaration, place, node));
    }

    int parent(int declaration, int node) {
        return ask(x -> x.parent(declaration, node));
    }

    int argument(int wild, int node) {
        return ask(x -> x.argument(wild, node));
    }

    int make(int declaration, int outer) {
        return ask(x -> x.make(declaration, outer));
    }

    int array(int node) {
        return ask(x -> x.array(node));
    }

    int about(int node, int what) {
        return ask(x -> x.about(node, what));
    }

    int below(int a, int b) {
        return ask(x -> x.below(a, b));
    }

    int erased(int node) {
        return ask(x -> x.erased(node));
    }

    int whole(int node) {
        return ask(x -> x.whole(node));
    }

    int above(int node, int declaration) {
        return ask(x -> x.above(node, declaration));
    }

    int member(int node, int by) {
        return ask(x -> x.member(node, by));
    }

    int feed(int n, long w) {
        return ask(x -> x.feed(n, w));
    }

    int read() {
        return ask(x -> x.read());
    }

    int print(int node) {
        return ask(x -> x.print(node));
    }

    int out(int i) {
        return ask(x -> x.out(i));
    }

    int count(int what) {
        return ask(x -> x.count(what));
    }

    void tape(String text) {
        for (int i = 0; i < text.length(); i += 8) {
            int n = Math.min(8, text.length() - i);
            long w = 0;
            for (int k = 0; k < n; k++) {
                w = w << 8 | text.charAt(i + k);
            }
            Check.due("feed of " + text, feed(n, w), i + n);
        }
    }

    int read(String text) {
        tape(text);
        return read();
    }

    /** What a NODE is PRINTED as; a refusal as its number. */
    String text(int node) {
        if (node < 0) {
            return "" + node;
        }
        int length = print(node);
        StringBuilder s = new StringBuilder();
        for (int i = 0; i < length; i++) {
            s.append((char) out(i));
        }
        return length < 0 ? "" + length : s.toString();
    }

    /** NODES by long ARRAYS of primitives. */
    void fill(int nodes) {
        int there = count(1);
        for (int i = 0; i < 8 && there < nodes; i++) {
            read(i + "[]".repeat(Math.min(49, nodes - there)));
            there = count(1);
        }
        Check.due("NODES when filled", there, nodes);
    }

    private Calls again() {
        Calls other = new Calls();
        for (ToIntFunction<TypeForms2> call : made) {
            other.ask(call);
        }
        return other;
    }

    /** What is held beside THE DRAFT and THE TAPE; asked of others with the same calls, for asking takes calls, too. */
    String state() {
        StringBuilder s = new StringBuilder();
        Calls other = again();
        int nodes = other.count(1);
        s.append("declarations ").append(other.count(0)).append(" nodes ").append(nodes).append(" counts");
        for (int what = 5; what < 33; what++) {
            s.append(' ').append(other.count(what));
        }
        s.append(" out ");
        int length = other.count(4);
        for (int i = 0; i < length; i++) {
            other = other.number() < MOST ? other : again();
            s.append((char) other.out(i));
        }
        for (int node = 10; node < nodes; node++) {
            s.append(" node ").append(node);
            for (int what = 0; what <= 12; what++) {
                other = other.number() < MOST ? other : again();
                s.append(' ').append(other.about(node, what));
            }
        }
        return s.toString();
    }

    /** THE DRAFT and THE TAPE, told by what comes of them. */
    String draftAndTape() {
        StringBuilder s = new StringBuilder();
        s.append("draft ").append(again().count(2)).append(" tape ").append(again().count(3));
        int declarations = again().count(0);
        for (int d = 0; d < declarations; d++) {
            Calls other = again();
            int node = other.make(d, TypeForms2.NONE);
            s.append(' ').append(other.number() + 300 < MOST ? other.text(node) : "" + node);
        }
        return s.append(" read ").append(again().read()).toString();
    }
}
