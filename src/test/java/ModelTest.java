import java.util.ArrayList;
import java.util.List;
import java.util.Map;
import java.util.Random;
import java.util.TreeMap;

/**
 * Random runs of 512 calls, each answer compared with that of a second, plain writing of the document:
 * TYPES as trees, every search and every copy made anew.
 */
public final class ModelTest {
    static final int RUNS = 4000;
    static final int CALLS = 512;

    /** form as in about(); number: of 0 to 9, or the DECLARATION; inner: an ARRAY's TYPE or the OUTER TYPE. */
    record Type(int form, int number, int place, Type inner, List<Arg> args) {
    }

    record Arg(int wild, Type type) {
    }

    static final class Declaration {
        int kind;
        int parameters;
        int outer;
        final List<List<Type>> bounds = new ArrayList<>();
        final List<Type> parents = new ArrayList<>();
    }

    /** What a TEXT's FAULT is told by. */
    static final class Fault extends RuntimeException {
        private static final long serialVersionUID = 1L;
        final int place;

        Fault(int place) {
            this.place = place;
        }
    }

    static final class Model {
        static final int NONE = -1, UNKNOWN = -2, OUTSIDE = -3, ROOM = -5;
        final List<Declaration> declarations = new ArrayList<>();
        final List<Type> nodes = new ArrayList<>();
        final Type object = new Type(5, 0, -1, null, List.of());
        List<Arg> draft = new ArrayList<>();
        String tape = "";
        String out = "";
        int at;

        Model() {
            Declaration first = new Declaration();
            first.outer = NONE;
            declarations.add(first);
            for (int i = 0; i < 10; i++) {
                nodes.add(new Type(i < 8 ? 0 : i - 7, i, -1, null, List.of()));
            }
            nodes.add(object);
        }

        boolean isDeclaration(int d) {
            return 0 <= d && d < declarations.size();
        }

        boolean isNode(int n) {
            return 0 <= n && n < nodes.size();
        }

        Type variableType(int d, int place) {
            return new Type(3, d, place, null, List.of());
        }

        static Type arrayType(Type of) {
            return new Type(4, -1, -1, of, List.of());
        }

        static Type classType(int d, Type outer, List<Arg> args) {
            return new Type(5, d, -1, outer, args);
        }

        static int size(Type t) {
            int sum = 1 + (t.inner == null ? 0 : size(t.inner));
            for (Arg a : t.args) {
                if (sum > 60) {
                    return sum;
                }
                sum += a.type == null ? 0 : size(a.type);
            }
            return sum;
        }

        int answer(Type t) {
            if (size(t) > 60) {
                return ROOM;
            }
            int before = nodes.size();
            keep(t);
            if (nodes.size() > 200) {
                while (nodes.size() > before) {
                    nodes.remove(nodes.size() - 1);
                }
                return ROOM;
            }
            return nodes.indexOf(t);
        }

        void keep(Type t) {
            if (nodes.contains(t)) {
                return;
            }
            if (t.inner != null) {
                keep(t.inner);
            }
            for (Arg a : t.args) {
                if (a.type != null) {
                    keep(a.type);
                }
            }
            nodes.add(t);
        }

        boolean raw(Type t) {
            return t.form == 5 && (t.args.isEmpty() && declarations.get(t.number).parameters > 0
                    || t.inner != null && raw(t.inner));
        }

        Type erase(Type t) {
            switch (t.form) {
                case 3:
                    List<Type> bounds = declarations.get(t.number).bounds.get(t.place);
                    return erase(bounds.isEmpty() ? object : bounds.get(0));
                case 4:
                    return arrayType(erase(t.inner));
                case 5:
                    return classType(t.number, t.inner == null ? null : erase(t.inner), List.of());
                default:
                    return t;
            }
        }

        Arg teller(Type variable, Type s) {
            if (s == null) {
                return null;
            }
            return s.number == variable.number ? s.args.get(variable.place) : teller(variable, s.inner);
        }

        Type put(Type t, Type s) {
            if (raw(s)) {
                return erase(t);
            }
            if (t.form == 3) {
                Arg a = teller(t, s);
                return a == null ? t : a.wild <= 1 ? a.type : erase(t);
            }
            if (t.form == 4) {
                return arrayType(put(t.inner, s));
            }
            if (t.form != 5) {
                return t;
            }
            List<Arg> args = new ArrayList<>();
            for (Arg a : t.args) {
                args.add(put(a, s));
            }
            return classType(t.number, t.inner == null ? null : put(t.inner, s), args);
        }

        Arg put(Arg a, Type s) {
            if (a.wild == 3) {
                return a;
            }
            Arg by = a.type.form == 3 ? teller(a.type, s) : null;
            if (by == null) {
                return new Arg(a.wild, put(a.type, s));
            }
            if (a.wild == 0) {
                return by;
            }
            return by.wild == 0 || by.wild == a.wild ? new Arg(a.wild, by.type) : new Arg(3, null);
        }

        Type sup(Type a, int d) {
            if (a.number == d) {
                return a;
            }
            for (Type parent : declarations.get(a.number).parents) {
                Type found = sup(put(parent, a), d);
                if (found != null) {
                    return found;
                }
            }
            return null;
        }

        int order(Type a, Type b, int depth) {
            if (depth == 5) {
                return 0;
            }
            if (a.equals(b)) {
                return 1;
            }
            if (a.form == 0 && b.form == 0) {
                String row = a.number == 3 ? "34567" : "124567";
                int i = row.indexOf('0' + a.number);
                return i >= 0 && row.indexOf('0' + b.number) > i ? 1 : 0;
            }
            if (a.form <= 1 || b.form <= 1) {
                return 0;
            }
            if (a.form == 2) {
                return b.form >= 3 ? 1 : 0;
            }
            if (b.equals(object)) {
                return 1;
            }
            if (a.form == 3) {
                List<Type> bounds = declarations.get(a.number).bounds.get(a.place);
                for (Type bound : bounds.isEmpty() ? List.of(object) : bounds) {
                    int is = order(bound, b, depth + 1);
                    if (is != 0) {
                        return is;
                    }
                }
                return 0;
            }
            if (a.form == 4 && b.form == 4) {
                return a.inner.form <= 2 || b.inner.form <= 2 ? 0 : order(a.inner, b.inner, depth + 1);
            }
            if (a.form != 5 || b.form != 5) {
                return 0;
            }
            Type s = sup(a, b.number);
            if (s == null) {
                return 0;
            }
            if (raw(b)) {
                return 1;
            }
            if (raw(s)) {
                return 2;
            }
            if (s.inner == null ? b.inner != null : !s.inner.equals(b.inner)) {
                return 0;
            }
            int all = 1;
            for (int i = 0; i < b.args.size(); i++) {
                int is = in(s.args.get(i), b.args.get(i), depth);
                if (is == 0) {
                    return 0;
                }
                all = is == 2 ? 2 : all;
            }
            return all;
        }

        int in(Arg x, Arg y, int depth) {
            switch (y.wild) {
                case 0:
                    return x.equals(y) ? 1 : 0;
                case 1:
                    return x.wild == 0 || x.wild == 1 ? order(x.type, y.type, depth + 1) : 0;
                case 2:
                    return x.wild == 0 || x.wild == 2 ? order(y.type, x.type, depth + 1) : 0;
                default:
                    return 1;
            }
        }

        boolean hasVariable(Type t) {
            if (t == null) {
                return false;
            }
            boolean has = t.form == 3 || hasVariable(t.inner);
            for (Arg a : t.args) {
                has |= hasVariable(a.type);
            }
            return has;
        }

        boolean asTold(int d, Type t) {
            if (t.form != 5 || hasVariable(t.inner)) {
                return false;
            }
            for (Arg a : t.args) {
                boolean own = a.wild == 0 && a.type.form == 3 && a.type.number == d;
                if (!own && hasVariable(a.type)) {
                    return false;
                }
            }
            return true;
        }

        int madeRule(int d, Type outer, List<Arg> args) {
            Declaration of = declarations.get(d);
            if (!args.isEmpty() && args.size() != of.parameters) {
                return 10;
            }
            if (of.outer == NONE ? outer != null : outer == null || outer.form != 5 || outer.number != of.outer) {
                return 11;
            }
            if (!args.isEmpty() && outer != null && raw(outer)) {
                return 12;
            }
            Type made = classType(d, outer, args);
            for (int i = 0; i < args.size(); i++) {
                for (Type bound : of.bounds.get(i)) {
                    if (args.get(i).wild == 0 && order(args.get(i).type, put(bound, made), 0) == 0) {
                        return 13;
                    }
                }
            }
            return 0;
        }

        static String text(Type t) {
            switch (t.form) {
                case 3:
                    return (char) ('a' + t.number) + "" + t.place;
                case 4:
                    return text(t.inner) + "[]";
                case 5:
                    StringBuilder s = new StringBuilder(t.inner == null ? "" : text(t.inner) + ".");
                    s.append((char) ('A' + t.number));
                    for (int i = 0; i < t.args.size(); i++) {
                        Arg a = t.args.get(i);
                        s.append(i == 0 ? "<" : ",").append(new String[] {"", "+", "-", "?"}[a.wild]);
                        s.append(a.type == null ? "" : text(a.type));
                    }
                    return s + (t.args.isEmpty() ? "" : ">");
                default:
                    return "" + t.number;
            }
        }

        char look() {
            return at < tape.length() ? tape.charAt(at) : '\uffff';
        }

        Type typeText() {
            Type t;
            char c = look();
            if (c >= '0' && c <= '9') {
                at++;
                t = nodes.get(c - '0');
            } else if (c >= 'a' && c - 'a' < declarations.size()) {
                at++;
                int place = look() - '0';
                if (place < 0 || place >= declarations.get(c - 'a').parameters) {
                    throw new Fault(at);
                }
                at++;
                t = variableType(c - 'a', place);
            } else {
                t = partText(null);
                while (look() == '.') {
                    at++;
                    t = partText(t);
                }
            }
            while (look() == '[') {
                if (t.form == 1 || t.form == 2) {
                    throw new Fault(at);
                }
                at++;
                must(']');
                t = arrayType(t);
            }
            return t;
        }

        void must(char c) {
            if (look() != c) {
                throw new Fault(at);
            }
            at++;
        }

        Type partText(Type outer) {
            int letter = at;
            int d = look() - 'A';
            if (!isDeclaration(d)) {
                throw new Fault(at);
            }
            at++;
            List<Arg> args = new ArrayList<>();
            if (look() == '<') {
                do {
                    at++;
                    args.add(argText());
                } while (look() == ',' && args.size() < 3);
                must('>');
            }
            if (madeRule(d, outer, args) != 0) {
                throw new Fault(letter);
            }
            return classType(d, outer, args);
        }

        Arg argText() {
            int wild = Math.max(0, "=+-?".indexOf(look()));
            if (look() == '=') {
                throw new Fault(at);
            }
            at += wild == 0 ? 0 : 1;
            if (wild == 3) {
                return new Arg(3, null);
            }
            int begin = at;
            Type t = typeText();
            if (t.form <= 2) {
                throw new Fault(begin);
            }
            return new Arg(wild, t);
        }

        int read() {
            at = 0;
            try {
                Type t = typeText();
                if (at < tape.length()) {
                    throw new Fault(at);
                }
                return answer(t);
            } catch (Fault f) {
                return -10 - f.place;
            } finally {
                tape = "";
            }
        }

        int declare(int kind, int parameters, int outer) {
            if (outer != NONE && !isDeclaration(outer)) {
                return UNKNOWN;
            }
            if (kind < 0 || kind > 2 || parameters < 0 || parameters > 3) {
                return OUTSIDE;
            }
            if (kind == 2 && parameters > 0) {
                return -101;
            }
            if (declarations.size() == 12 || nodes.size() + parameters > 200) {
                return ROOM;
            }
            Declaration d = new Declaration();
            d.kind = kind;
            d.parameters = parameters;
            d.outer = outer;
            for (int i = 0; i < parameters; i++) {
                d.bounds.add(new ArrayList<>());
                nodes.add(variableType(declarations.size(), i));
            }
            declarations.add(d);
            return declarations.size() - 1;
        }

        boolean isPlace(int d, int place) {
            return isDeclaration(d) && 0 <= place && place < declarations.get(d).parameters;
        }

        int variable(int d, int place) {
            return isPlace(d, place) ? nodes.indexOf(variableType(d, place)) : UNKNOWN;
        }

        int bound(int d, int place, int node) {
            if (!isPlace(d, place) || !isNode(node)) {
                return UNKNOWN;
            }
            Type t = nodes.get(node);
            List<Type> bounds = declarations.get(d).bounds.get(place);
            if (t.form == 3 ? t.number != d : !asTold(d, t)) {
                return -102;
            }
            boolean others = !bounds.isEmpty();
            if (others && (t.form == 3 || bounds.get(0).form == 3)) {
                return -104;
            }
            if (others && declarations.get(t.number).kind != 1) {
                return -105;
            }
            for (Type v = t; v.form == 3;) {
                if (v.equals(variableType(d, place))) {
                    return -106;
                }
                List<Type> next = declarations.get(d).bounds.get(v.place);
                v = next.isEmpty() ? object : next.get(0);
            }
            if (bounds.size() == 3) {
                return ROOM;
            }
            bounds.add(t);
            return bounds.size();
        }

        int parent(int d, int node) {
            if (d == 0 || !isDeclaration(d) || !isNode(node)) {
                return UNKNOWN;
            }
            Type t = nodes.get(node);
            Declaration of = declarations.get(d);
            if (!asTold(d, t)) {
                return -102;
            }
            if (t.number >= d) {
                return -107;
            }
            if ((of.kind == 1 || !of.parents.isEmpty()) && declarations.get(t.number).kind != 1) {
                return -108;
            }
            if (of.parents.size() == 3) {
                return ROOM;
            }
            of.parents.add(t);
            return of.parents.size();
        }

        int argument(int wild, int node) {
            if (wild != 3 && !isNode(node)) {
                return UNKNOWN;
            }
            if (wild < 0 || wild > 3) {
                return OUTSIDE;
            }
            if (wild != 3 && nodes.get(node).form <= 2) {
                return -109;
            }
            if (draft.size() == 3) {
                return ROOM;
            }
            draft.add(new Arg(wild, wild == 3 ? null : nodes.get(node)));
            return draft.size();
        }

        int make(int d, int outer) {
            List<Arg> args = draft;
            draft = new ArrayList<>();
            if (!isDeclaration(d) || outer != NONE && !isNode(outer)) {
                return UNKNOWN;
            }
            Type around = outer == NONE ? null : nodes.get(outer);
            int rule = madeRule(d, around, args);
            return rule != 0 ? -100 - rule : answer(classType(d, around, args));
        }

        int array(int node) {
            if (!isNode(node)) {
                return UNKNOWN;
            }
            return node == 8 || node == 9 ? -114 : answer(arrayType(nodes.get(node)));
        }

        int about(int node, int what) {
            if (!isNode(node) || what < 0 || what > 12) {
                return UNKNOWN;
            }
            Type t = nodes.get(node);
            if (what >= 6 && what < 12) {
                int i = what % 3;
                Arg a = i < t.args.size() ? t.args.get(i) : null;
                return a == null ? NONE : what < 9 ? a.wild : a.type == null ? NONE : nodes.indexOf(a.type);
            }
            switch (what) {
                case 0:
                    return t.form;
                case 1:
                    return t.form == 3 || t.form == 5 ? t.number : NONE;
                case 2:
                    return t.place;
                case 3:
                    return t.form == 4 ? nodes.indexOf(t.inner) : NONE;
                case 4:
                    return t.form == 5 && t.inner != null ? nodes.indexOf(t.inner) : NONE;
                case 5:
                    return t.args.size();
                default:
                    return raw(t) ? 1 : 0;
            }
        }

        int below(int a, int b) {
            return isNode(a) && isNode(b) ? order(nodes.get(a), nodes.get(b), 0) : UNKNOWN;
        }

        int erased(int node) {
            return isNode(node) ? answer(erase(nodes.get(node))) : UNKNOWN;
        }

        boolean allAny(Type t) {
            boolean all = t.inner == null || allAny(t.inner);
            for (Arg a : t.args) {
                all &= a.wild == 3;
            }
            return all;
        }

        boolean isWhole(Type t) {
            return t.form <= 2 || t.form == 4 && isWhole(t.inner) || t.form == 5 && (raw(t) || allAny(t));
        }

        int whole(int node) {
            return !isNode(node) ? UNKNOWN : isWhole(nodes.get(node)) ? 1 : 0;
        }

        int above(int node, int d) {
            if (!isNode(node) || nodes.get(node).form != 5 || !isDeclaration(d)) {
                return UNKNOWN;
            }
            Type s = sup(nodes.get(node), d);
            return s == null ? NONE : answer(s);
        }

        int member(int node, int by) {
            if (!isNode(node) || !isNode(by) || nodes.get(by).form != 5) {
                return UNKNOWN;
            }
            return answer(put(nodes.get(node), nodes.get(by)));
        }

        int feed(int n, long w) {
            if (n < 1 || n > 8) {
                return OUTSIDE;
            }
            if (tape.length() + n > 100) {
                return ROOM;
            }
            for (int i = n - 1; i >= 0; i--) {
                tape += (char) (w >>> 8 * i & 255);
            }
            return tape.length();
        }

        int print(int node) {
            if (!isNode(node)) {
                return UNKNOWN;
            }
            String text = text(nodes.get(node));
            if (text.length() > 200) {
                return ROOM;
            }
            out = text;
            return text.length();
        }

        int out(int i) {
            return 0 <= i && i < out.length() ? out.charAt(i) : NONE;
        }

        int count(int what) {
            if (what >= 5 && isDeclaration(what - 5)) {
                return declarations.get(what - 5).bounds.stream().mapToInt(List::size).sum();
            }
            if (what >= 20 && isDeclaration(what - 20)) {
                return declarations.get(what - 20).parents.size();
            }
            switch (what) {
                case 0:
                    return declarations.size();
                case 1:
                    return nodes.size();
                case 2:
                    return draft.size();
                case 3:
                    return tape.length();
                case 4:
                    return out.length();
                default:
                    return UNKNOWN;
            }
        }
    }

    /** One run: an object, its model, and what is asked of both. */
    static final class Run {
        final Random random;
        final TypeForms2 object = new TypeForms2();
        final Model model = new Model();
        final List<String> told = new ArrayList<>();
        final Map<String, Integer> seen;
        final int oddity;
        final boolean greedy;
        final int filledTo;
        boolean wrong;
        int calls;

        Run(long seed, Map<String, Integer> seen) {
            random = new Random(seed);
            this.seen = seen;
            oddity = 5 + random.nextInt(60);
            greedy = random.nextInt(3) == 0;
            filledTo = random.nextInt(3) == 0 ? 180 + random.nextInt(21) : 0;
        }

        int due(String name, String arguments, int got, int want) {
            calls++;
            told.add(name + "(" + arguments + ") answered " + got + ", due is " + want);
            String kind = name + " " + (want < 0 && (want > -10 || want <= -100) ? want
                    : name.equals("read") && want < 0 ? "fault" : name.equals("below") ? "" + want : "well");
            seen.merge(kind, 1, Integer::sum);
            // What is answered behind the 512th call is free.
            wrong |= calls <= CALLS && got != want;
            return want;
        }

        boolean odd() {
            return random.nextInt(oddity) == 0;
        }

        int oddNumber() {
            int[] odd = {-1, -2, -3, Integer.MIN_VALUE, Integer.MAX_VALUE, 12, 13, 200, 1 << 30, model.nodes.size(),
                model.declarations.size(), 4, 3};
            return odd[random.nextInt(odd.length)];
        }

        int node() {
            if (odd()) {
                return oddNumber();
            }
            int all = model.nodes.size();
            if (greedy && random.nextInt(3) > 0) {
                return all - 1 - random.nextInt(Math.min(all, 4));
            }
            return random.nextInt(3) == 0 ? random.nextInt(all) : 9 + random.nextInt(all - 9);
        }

        int nodeOfForm(int form) {
            int node = node();
            for (int i = 0; i < 30 && !(model.isNode(node) && model.nodes.get(node).form == form); i++) {
                node = node();
            }
            return node;
        }

        int nodeOfDeclaration(int d) {
            int node = nodeOfForm(5);
            for (int i = 0; i < 30 && !(model.isNode(node) && model.nodes.get(node).form == 5
                    && model.nodes.get(node).number == d); i++) {
                node = nodeOfForm(5);
            }
            return node;
        }

        int declaration() {
            return odd() ? oddNumber() : random.nextInt(model.declarations.size());
        }

        void declare() {
            int kind = odd() ? oddNumber() : new int[] {0, 0, 1, 1, 1, 2}[random.nextInt(6)];
            int parameters = odd() ? oddNumber() : kind == 2 && random.nextInt(6) > 0 ? 0 : random.nextInt(4);
            int outer = random.nextInt(3) == 0 ? declaration() : -1;
            due("declare", kind + ", " + parameters + ", " + outer, object.declare(kind, parameters, outer),
                    model.declare(kind, parameters, outer));
        }

        int place(int d) {
            boolean fit = model.isDeclaration(d) && model.declarations.get(d).parameters > 0;
            return odd() || !fit ? oddNumber() : random.nextInt(model.declarations.get(d).parameters);
        }

        void bound() {
            int d = declaration();
            for (int i = 0; i < 10 && !model.isPlace(d, 0); i++) {
                d = declaration();
            }
            int place = place(d);
            int node = random.nextInt(3) == 0 ? nodeOfForm(3) : nodeOfForm(5);
            if (random.nextInt(2) == 0) {
                argumentsFor(declaration(), d);
            }
            due("bound", d + ", " + place + ", " + node, object.bound(d, place, node), model.bound(d, place, node));
        }

        void parent() {
            int d = declaration();
            int node = nodeOfForm(5);
            if (random.nextInt(2) == 0 && d > 1) {
                node = argumentsFor(random.nextInt(Math.min(d, model.declarations.size())), d);
            }
            due("parent", d + ", " + node, object.parent(d, node), model.parent(d, node));
        }

        void argument(int wild, int node) {
            due("argument", wild + ", " + node, object.argument(wild, node), model.argument(wild, node));
        }

        void anyArgument() {
            int wild = odd() ? oddNumber() : new int[] {0, 0, 0, 1, 2, 3}[random.nextInt(6)];
            argument(wild, random.nextInt(5) == 0 ? node() : nodeOfForm(3 + random.nextInt(3)));
        }

        int make(int d, int outer) {
            return due("make", d + ", " + outer, object.make(d, outer), model.make(d, outer));
        }

        int outerFor(int d) {
            boolean inner = model.isDeclaration(d) && model.declarations.get(d).outer >= 0;
            return odd() ? node() : inner ? nodeOfDeclaration(model.declarations.get(d).outer) : -1;
        }

        void someMake() {
            int d = declaration();
            int given = model.isDeclaration(d) ? model.declarations.get(d).parameters : 1;
            given = odd() ? random.nextInt(4) : random.nextInt(6) == 0 ? 0 : given;
            for (int i = model.draft.size(); i < given; i++) {
                anyArgument();
            }
            make(d, outerFor(d));
        }

        /** A CLASS TYPE with VARIABLES of a DECLARATION, as BOUNDS and PARENTS have them. */
        int argumentsFor(int d, int by) {
            int given = model.isDeclaration(d) ? model.declarations.get(d).parameters : 0;
            if (!model.draft.isEmpty()) {
                make(0, -1);
            }
            for (int i = 0; i < given; i++) {
                int variable = model.variable(by, random.nextInt(3));
                argument(0, variable >= 0 && random.nextInt(4) > 0 ? variable : nodeOfForm(5));
            }
            return make(d, outerFor(d));
        }

        String randomText(int depth) {
            StringBuilder s = new StringBuilder();
            int kind = random.nextInt(depth > 3 ? 4 : 12);
            if (kind == 0) {
                s.append(random.nextInt(10));
            } else if (kind == 1) {
                int d = random.nextInt(model.declarations.size());
                int most = model.declarations.get(d).parameters;
                s.append((char) ('a' + d)).append(most == 0 || random.nextInt(20) == 0 ? 2 : random.nextInt(most));
            } else if (kind == 2 && random.nextBoolean()) {
                s.append(Model.text(model.nodes.get(random.nextInt(model.nodes.size()))));
            } else {
                s.append(randomClass(random.nextInt(model.declarations.size()), depth));
            }
            while (random.nextInt(5) == 0) {
                s.append("[]");
            }
            return s.toString();
        }

        String randomClass(int d, int depth) {
            Declaration of = model.declarations.get(d);
            StringBuilder s = new StringBuilder();
            if (of.outer >= 0 && random.nextInt(15) > 0) {
                s.append(randomClass(of.outer, depth)).append('.');
            }
            s.append((char) ('A' + d));
            int given = random.nextInt(15) == 0 ? random.nextInt(5) : random.nextInt(5) == 0 ? 0 : of.parameters;
            given = depth > 3 ? 0 : given;
            for (int i = 0; i < given; i++) {
                s.append(i == 0 ? '<' : ',');
                int wild = random.nextInt(6);
                s.append(wild == 5 ? "?" : (wild == 4 ? "+" : wild == 3 ? "-" : "") + randomText(depth + 1));
            }
            return s.append(given > 0 ? ">" : "").toString();
        }

        /** NODES by long ARRAYS of primitives, so that there is little room for others. */
        void fill() {
            for (int i = 0; i < 8 && model.nodes.size() < filledTo; i++) {
                int dimensions = Math.min(49, filledTo - model.nodes.size());
                feedAndRead(i + "[]".repeat(dimensions));
            }
        }

        void text() {
            StringBuilder s = new StringBuilder(randomText(0));
            while (random.nextInt(3) == 0 && s.length() > 0) {
                String letters = "ABCDEFGHIJKLMabclm0123456789<>,.?+-[]= \0\u00ff";
                char c = letters.charAt(random.nextInt(letters.length()));
                int i = random.nextInt(s.length());
                switch (random.nextInt(4)) {
                    case 0 -> s.setCharAt(i, c);
                    case 1 -> s.insert(i, c);
                    case 2 -> s.deleteCharAt(i);
                    default -> s.setLength(i);
                }
            }
            feedAndRead(s.toString());
        }

        void feedAndRead(String s) {
            for (int i = 0; i < s.length();) {
                int n = odd() ? oddNumber() : Math.min(1 + random.nextInt(8), s.length() - i);
                long w = random.nextLong();
                for (int k = 0; k < Math.min(n, 8) && i + k < s.length(); k++) {
                    w = w << 8 | s.charAt(i + k);
                }
                int fed = due("feed", n + ", " + w, object.feed(n, w), model.feed(n, w));
                i += fed < 0 ? 1 : n;
            }
            if (random.nextInt(20) > 0) {
                int read = due("read", "", object.read(), model.read());
                due("count", "1", object.count(1), model.count(1));
                if (read >= 0) {
                    print(read);
                }
            }
        }

        void print(int node) {
            due("print", "" + node, object.print(node), model.print(node));
            int from = random.nextInt(5) == 0 ? 0 : model.out.length();
            for (int i = from; i <= model.out.length(); i++) {
                due("out", "" + i, object.out(i), model.out(i));
            }
            int i = odd() ? oddNumber() : random.nextInt(model.out.length() + 1);
            due("out", "" + i, object.out(i), model.out(i));
        }

        void looks() {
            int node = node();
            int what = odd() ? oddNumber() : random.nextInt(14);
            due("about", node + ", " + what, object.about(node, what), model.about(node, what));
            due("whole", "" + node, object.whole(node), model.whole(node));
            int counted = odd() ? oddNumber() : random.nextInt(34);
            due("count", "" + counted, object.count(counted), model.count(counted));
            int d = declaration();
            int place = odd() ? oddNumber() : random.nextInt(4);
            due("variable", d + ", " + place, object.variable(d, place), model.variable(d, place));
        }

        void below() {
            int a = node();
            below(a, node());
            below(a, nodeOfDeclaration(ancestorOf(a)));
            a = nodeOfForm(5);
            below(a, nodeOfDeclaration(ancestorOf(a)));
        }

        void below(int a, int b) {
            due("below", a + ", " + b, object.below(a, b), model.below(a, b));
        }

        int ancestorOf(int node) {
            int d = declaration();
            boolean ofClass = model.isNode(node) && model.nodes.get(node).form == 5;
            for (int i = 0; i < 12 && ofClass; i++) {
                boolean far = model.isDeclaration(d) && d != 0 && d != model.nodes.get(node).number;
                if (far && model.sup(model.nodes.get(node), d) != null) {
                    return d;
                }
                d = declaration();
            }
            return ofClass && random.nextBoolean() ? model.nodes.get(node).number : d;
        }

        void forms() {
            int node = node();
            switch (random.nextInt(4)) {
                case 0 -> due("erased", "" + node, object.erased(node), model.erased(node));
                case 1 -> due("array", "" + node, object.array(node), model.array(node));
                case 2 -> {
                    int by = nodeOfForm(5);
                    due("member", node + ", " + by, object.member(node, by), model.member(node, by));
                }
                default -> {
                    int of = nodeOfForm(5);
                    int d = ancestorOf(of);
                    due("above", of + ", " + d, object.above(of, d), model.above(of, d));
                }
            }
            due("count", "1", object.count(1), model.count(1));
        }

        void step() {
            int young = model.declarations.size() < 8 ? 6 : 1;
            int kind = random.nextInt(40 + young);
            if (greedy && random.nextInt(3) > 0 && model.declarations.size() > 3) {
                kind = new int[] {0, 0, 0, 27, 38}[random.nextInt(5)];
            }
            if (kind < 6) {
                someMake();
            } else if (kind < 10) {
                bound();
            } else if (kind < 14) {
                parent();
            } else if (kind < 19) {
                looks();
            } else if (kind < 27) {
                below();
            } else if (kind < 33) {
                forms();
            } else if (kind < 38) {
                text();
            } else if (kind < 39) {
                print(node());
            } else if (kind < 40) {
                anyArgument();
            } else {
                declare();
            }
        }

        boolean holds() {
            while (calls < CALLS && !wrong) {
                if (calls > 200 && model.nodes.size() < filledTo) {
                    fill();
                }
                step();
            }
            return !wrong;
        }
    }

    static final String[] DUE = {
        "declare -101", "declare -2", "declare -3", "declare -5", "declare well", "variable -2", "variable well",
        "bound -102", "bound -104", "bound -105", "bound -106", "bound -2", "bound -5", "bound well",
        "parent -102", "parent -107", "parent -108", "parent -2", "parent -5", "parent well",
        "argument -109", "argument -2", "argument -3", "argument -5", "argument well",
        "make -110", "make -111", "make -112", "make -113", "make -2", "make -5", "make well",
        "array -114", "array -2", "array -5", "array well", "about -1", "about -2", "about well",
        "below -2", "below 0", "below 1", "below 2", "erased -2", "erased -5", "erased well", "whole -2", "whole well",
        "above -1", "above -2", "above -5", "above well", "member -2", "member -5", "member well",
        "feed -3", "feed -5", "feed well", "read fault", "read -5", "read well", "print -2", "print -5", "print well",
        "out -1", "out well", "count -2", "count well"};

    public static void main(String[] args) {
        Map<String, Integer> seen = new TreeMap<>();
        int wrong = 0;
        for (int i = 0; i < RUNS && wrong < 3; i++) {
            Run run = new Run(i, seen);
            if (!run.holds()) {
                wrong++;
                System.out.println("run " + i + ":");
                run.told.forEach(System.out::println);
            }
        }
        for (String outcome : DUE) {
            if (wrong == 0 && !seen.containsKey(outcome)) {
                wrong++;
                System.out.println("never came: " + outcome);
            }
        }
        System.out.println(wrong == 0 ? "all answers are as due" : wrong + " runs are not as due");
        if (args.length > 1) {
            System.out.println(seen);
        }
        if (wrong != 0) {
            System.exit(1);
        }
    }
}
