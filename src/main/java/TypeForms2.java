/**
 * Types of a language as NODES: made, compared, erased, put into one another, read and printed.
 * The words in capitals are those of the document (DOC.md).
 */
public final class TypeForms2 {
    public static final int NONE = -1, UNKNOWN = -2, OUTSIDE = -3, ROOM = -5;

    private static final int RULE = -100, FAULT = -10;
    private static final int INTERFACE = 1, EXCEPTION = 2;
    private static final int PRIMITIVE = 0, VOID = 1, NULL = 2, VARIABLE = 3, ARRAY = 4, CLASS = 5;
    private static final int EXACT = 0, UP_TO = 1, FROM = 2, ANY = 3;
    private static final int MOST_DECLARATIONS = 12, MOST_NODES = 200, MOST_SIZE = 60;
    private static final int MOST_PLACES = 3, MOST_BOUNDS = 3, MOST_PARENTS = 3;
    private static final int MOST_TAPE = 100, MOST_OUT = 200, MOST_FED = 8;
    private static final int OBJECT = 0, VOID_NODE = 8, NULL_NODE = 9, OBJECT_NODE = 10;
    private static final int BYTE = 1, CHAR = 3, INT = 4;
    private static final int UNCHECKED = 2, TOO_DEEP = 5;

    /** A call needs some 200 rows beside the NODES at most: a TYPE of SIZE 60, and a chain of SUPERS a depth. */
    private static final int ROWS = 512;

    /** No TYPE of SIZE 60 and no TEXT of 100 bytes is nested deeper. */
    private static final int DEEPEST = 64;

    private final Declarations declarations;
    private final Types types;
    private final Forms forms;
    private final Order order;
    private final Rules rules;
    private final Reader reader;
    private final Printer printer;
    private final int[] draft;
    private int drafted;

    public TypeForms2() {
        declarations = new Declarations();
        types = new Types(declarations);
        forms = new Forms(declarations, types);
        order = new Order(declarations, types, forms);
        rules = new Rules(declarations, types, forms, order);
        reader = new Reader(declarations, types, rules);
        printer = new Printer(types);
        draft = new int[MOST_PLACES];
        drafted = 0;
    }

    public int declare(int kind, int parameters, int outer) {
        if (outer != NONE && !declarations.has(outer)) {
            return UNKNOWN;
        }
        if (kind < 0 || kind > EXCEPTION || parameters < 0 || parameters > MOST_PLACES) {
            return OUTSIDE;
        }
        if (kind == EXCEPTION && parameters > 0) {
            return RULE - 1;
        }
        if (!declarations.hasRoom() || !types.hasRoomFor(parameters)) {
            return ROOM;
        }
        int variables = types.addVariables(declarations.number(), parameters);
        return declarations.add(kind, parameters, outer, variables);
    }

    public int variable(int declaration, int place) {
        int node = declarations.variableAt(declaration, place);
        return node == NONE ? UNKNOWN : node;
    }

    public int bound(int declaration, int place, int node) {
        if (declarations.variableAt(declaration, place) == NONE || !types.isNode(node)) {
            return UNKNOWN;
        }
        int rule = rules.ofBound(declaration, place, node);
        return rule != 0 ? RULE - rule : declarations.addBound(declaration, place, node);
    }

    public int parent(int declaration, int node) {
        if (declaration == OBJECT || !declarations.has(declaration) || !types.isNode(node)) {
            return UNKNOWN;
        }
        int rule = rules.ofParent(declaration, node);
        return rule != 0 ? RULE - rule : declarations.addParent(declaration, node, types.ownerOf(node));
    }

    public int argument(int wild, int node) {
        if (wild != ANY && !types.isNode(node)) {
            return UNKNOWN;
        }
        if (wild < EXACT || wild > ANY) {
            return OUTSIDE;
        }
        if (wild != ANY && !types.canBeArgument(node)) {
            return RULE - 9;
        }
        if (drafted >= MOST_PLACES) {
            return ROOM;
        }
        draft[drafted] = argumentOf(wild, node);
        drafted++;
        return drafted;
    }

    public int make(int declaration, int outer) {
        int first = drafted > 0 ? draft[0] : NONE;
        int second = drafted > 1 ? draft[1] : NONE;
        int third = drafted > 2 ? draft[2] : NONE;
        drafted = 0;
        if (!declarations.has(declaration) || (outer != NONE && !types.isNode(outer))) {
            return UNKNOWN;
        }
        types.forget();
        int rule = rules.ofMade(declaration, outer, first, second, third);
        if (rule != 0) {
            return RULE - rule;
        }
        return types.answer(types.shaped(CLASS, declaration, outer, first, second, third));
    }

    public int array(int node) {
        if (!types.isNode(node)) {
            return UNKNOWN;
        }
        if (!types.canBeElement(node)) {
            return RULE - 14;
        }
        types.forget();
        return types.answer(types.shaped(ARRAY, NONE, node, NONE, NONE, NONE));
    }

    public int about(int node, int what) {
        if (!types.isNode(node) || what < 0 || what > 12) {
            return UNKNOWN;
        }
        switch (what) {
            case 0:
                return types.formOf(node);
            case 1:
                return types.ownerOf(node);
            case 2:
                return types.placeOf(node);
            case 3:
                return types.elementOf(node);
            case 4:
                return types.outerOf(node);
            case 5:
                return types.argumentsOf(node);
            case 12:
                return types.isRaw(node) ? 1 : 0;
            default:
                break;
        }
        return what < 9 ? wildOf(types.argumentAt(node, what - 6)) : typeOf(types.argumentAt(node, what - 9));
    }

    public int below(int a, int b) {
        if (!types.isNode(a) || !types.isNode(b)) {
            return UNKNOWN;
        }
        types.forget();
        return order.ask(a, b, 0);
    }

    public int erased(int node) {
        if (!types.isNode(node)) {
            return UNKNOWN;
        }
        types.forget();
        return types.answer(forms.erase(node));
    }

    public int whole(int node) {
        if (!types.isNode(node)) {
            return UNKNOWN;
        }
        return forms.isWhole(node) ? 1 : 0;
    }

    public int above(int node, int declaration) {
        if (!types.isNode(node) || types.formOf(node) != CLASS || !declarations.has(declaration)) {
            return UNKNOWN;
        }
        types.forget();
        int found = forms.superOf(node, declaration);
        return found == NONE ? NONE : types.answer(found);
    }

    public int member(int node, int by) {
        if (!types.isNode(node) || !types.isNode(by) || types.formOf(by) != CLASS) {
            return UNKNOWN;
        }
        types.forget();
        return types.answer(forms.putIn(node, by, 0));
    }

    public int feed(int n, long w) {
        if (n < 1 || n > MOST_FED) {
            return OUTSIDE;
        }
        return reader.take(n, w);
    }

    public int read() {
        types.forget();
        reader.start();
        int type = reader.typeText(0);
        int fault = reader.finish();
        return fault != NONE ? FAULT - fault : types.answer(type);
    }

    public int print(int node) {
        if (!types.isNode(node)) {
            return UNKNOWN;
        }
        return printer.put(node);
    }

    public int out(int i) {
        return printer.byteAt(i);
    }

    public int count(int what) {
        switch (what) {
            case 0:
                return declarations.number();
            case 1:
                return types.number();
            case 2:
                return drafted;
            case 3:
                return reader.length();
            case 4:
                return printer.length();
            default:
                break;
        }
        if (what >= 5 && declarations.has(what - 5)) {
            return declarations.allBoundsOf(what - 5);
        }
        if (what >= 20 && declarations.has(what - 20)) {
            return declarations.parentsOf(what - 20);
        }
        return UNKNOWN;
    }

    /** An ARGUMENT is one number, so that alike ones are equal numbers and no object is made for it. */
    private static int argumentOf(int wild, int type) {
        return wild == ANY ? ANY : (type + 1) * 4 + wild;
    }

    private static int wildOf(int argument) {
        return argument < 0 ? NONE : argument & 3;
    }

    private static int typeOf(int argument) {
        return argument < 0 ? NONE : (argument >> 2) - 1;
    }

    /** The DECLARATIONS, with their VARIABLES' BOUNDS and their PARENTS. */
    private static final class Declarations {
        private final int[] kind = new int[MOST_DECLARATIONS];
        private final int[] parameters = new int[MOST_DECLARATIONS];
        private final int[] outer = new int[MOST_DECLARATIONS];
        private final int[] within = new int[MOST_DECLARATIONS];
        private final int[] firstVariable = new int[MOST_DECLARATIONS];
        private final int[] bounds = new int[MOST_DECLARATIONS * MOST_PLACES * MOST_BOUNDS];
        private final int[] boundNumber = new int[MOST_DECLARATIONS * MOST_PLACES];
        private final int[] parents = new int[MOST_DECLARATIONS * MOST_PARENTS];
        private final int[] parentOwner = new int[MOST_DECLARATIONS * MOST_PARENTS];
        private final int[] parentNumber = new int[MOST_DECLARATIONS];
        private final int[] ancestors = new int[MOST_DECLARATIONS];
        private int number;

        Declarations() {
            outer[OBJECT] = NONE;
            within[OBJECT] = 1;
            firstVariable[OBJECT] = NONE;
            number = 1;
        }

        int number() {
            return number;
        }

        boolean has(int declaration) {
            return declaration >= 0 && declaration < number;
        }

        boolean hasRoom() {
            return number < MOST_DECLARATIONS;
        }

        int add(int newKind, int newParameters, int newOuter, int variables) {
            if (number >= MOST_DECLARATIONS) {
                return ROOM;
            }
            int added = number;
            kind[added] = newKind;
            parameters[added] = newParameters;
            outer[added] = newOuter;
            within[added] = 1 << added | (has(newOuter) ? within[newOuter] : 0);
            firstVariable[added] = variables;
            number++;
            return added;
        }

        boolean isInterface(int declaration) {
            return has(declaration) && kind[declaration] == INTERFACE;
        }

        int parametersOf(int declaration) {
            return has(declaration) ? parameters[declaration] : 0;
        }

        int outerOf(int declaration) {
            return has(declaration) ? outer[declaration] : NONE;
        }

        /** Whether it is the other one, or that lies around it. */
        boolean isWithin(int declaration, int around) {
            return declaration >= 0 && declaration < number && (within[declaration] >> around & 1) == 1;
        }

        private boolean hasPlace(int declaration, int place) {
            return has(declaration) && place >= 0 && place < parameters[declaration];
        }

        int variableAt(int declaration, int place) {
            return hasPlace(declaration, place) ? firstVariable[declaration] + place : NONE;
        }

        int boundsOf(int declaration, int place) {
            return hasPlace(declaration, place) ? boundNumber[declaration * MOST_PLACES + place] : 0;
        }

        int boundAt(int declaration, int place, int i) {
            if (declaration < 0 || declaration >= number || place < 0 || place >= MOST_PLACES) {
                return NONE;
            }
            int variable = declaration * MOST_PLACES + place;
            return i >= 0 && i < boundNumber[variable] ? bounds[variable * MOST_BOUNDS + i] : NONE;
        }

        int allBoundsOf(int declaration) {
            int all = 0;
            for (int place = 0; place < MOST_PLACES; place++) {
                all += boundsOf(declaration, place);
            }
            return all;
        }

        int addBound(int declaration, int place, int node) {
            int had = boundsOf(declaration, place);
            if (!hasPlace(declaration, place) || had >= MOST_BOUNDS) {
                return ROOM;
            }
            int variable = declaration * MOST_PLACES + place;
            bounds[variable * MOST_BOUNDS + had] = node;
            boundNumber[variable] = had + 1;
            return had + 1;
        }

        int parentsOf(int declaration) {
            return has(declaration) ? parentNumber[declaration] : 0;
        }

        int addParent(int declaration, int node, int owner) {
            int had = parentsOf(declaration);
            if (!has(declaration) || !has(owner) || had >= MOST_PARENTS) {
                return ROOM;
            }
            parents[declaration * MOST_PARENTS + had] = node;
            parentOwner[declaration * MOST_PARENTS + had] = owner;
            parentNumber[declaration] = had + 1;
            findAncestors();
            return had + 1;
        }

        /** Kept so that a SUPER is found without a search through all ways up, which may be 3 to the 11th. */
        private void findAncestors() {
            for (int d = 0; d < number; d++) {
                ancestors[d] = 1 << d;
                for (int i = 0; i < parentNumber[d]; i++) {
                    ancestors[d] |= ancestors[parentOwner[d * MOST_PARENTS + i]];
                }
            }
        }

        /** The first PARENT by which a DECLARATION comes to an ancestor. */
        int parentToward(int declaration, int ancestor) {
            for (int i = 0; i < parentsOf(declaration); i++) {
                int at = declaration * MOST_PARENTS + i;
                if ((ancestors[parentOwner[at]] >> ancestor & 1) == 1) {
                    return parents[at];
                }
            }
            return NONE;
        }
    }

    /**
     * The TYPES as rows, equal ones being one row: the NODES, and from MOST_NODES on those that a call
     * makes on its way and that are forgotten with it.
     */
    private static final class Types {
        private final Declarations declarations;
        private final int[] form = new int[ROWS];
        private final int[] owner = new int[ROWS];
        private final int[] place = new int[ROWS];
        private final int[] inner = new int[ROWS];
        private final int[] arguments = new int[ROWS * MOST_PLACES];
        private final int[] size = new int[ROWS];
        private final boolean[] raw = new boolean[ROWS];
        private final boolean[] open = new boolean[ROWS];
        private int nodes;
        private int top;
        private boolean keeping;
        private boolean full;

        Types(Declarations declarations) {
            this.declarations = declarations;
            for (int i = 0; i < OBJECT_NODE; i++) {
                setPlain(i, i == VOID_NODE ? VOID : i == NULL_NODE ? NULL : PRIMITIVE, NONE, NONE);
            }
            setPlain(OBJECT_NODE, CLASS, OBJECT, NONE);
            nodes = OBJECT_NODE + 1;
            top = MOST_NODES;
        }

        private void setPlain(int row, int newForm, int newOwner, int newPlace) {
            form[row] = newForm;
            owner[row] = newOwner;
            place[row] = newPlace;
            inner[row] = NONE;
            for (int i = 0; i < MOST_PLACES; i++) {
                arguments[row * MOST_PLACES + i] = NONE;
            }
            size[row] = 1;
            raw[row] = false;
            open[row] = newForm == VARIABLE;
        }

        int number() {
            return nodes;
        }

        boolean isNode(int type) {
            return type >= 0 && type < nodes;
        }

        boolean hasRoomFor(int more) {
            return nodes + more <= MOST_NODES;
        }

        int addVariables(int declaration, int parameters) {
            int first = nodes;
            for (int i = 0; i < parameters && nodes < MOST_NODES; i++) {
                setPlain(nodes, VARIABLE, declaration, i);
                nodes++;
            }
            return first;
        }

        int formOf(int type) {
            return type >= 0 && type < ROWS ? form[type] : NONE;
        }

        int ownerOf(int type) {
            return type >= 0 && type < ROWS ? owner[type] : NONE;
        }

        int placeOf(int type) {
            return type >= 0 && type < ROWS ? place[type] : NONE;
        }

        int elementOf(int type) {
            return type >= 0 && type < ROWS && form[type] == ARRAY ? inner[type] : NONE;
        }

        int outerOf(int type) {
            return type >= 0 && type < ROWS && form[type] == CLASS ? inner[type] : NONE;
        }

        int argumentAt(int type, int i) {
            boolean there = type >= 0 && type < ROWS && i >= 0 && i < MOST_PLACES;
            return there ? arguments[type * MOST_PLACES + i] : NONE;
        }

        int argumentsOf(int type) {
            int given = 0;
            for (int i = 0; i < MOST_PLACES; i++) {
                given += argumentAt(type, i) == NONE ? 0 : 1;
            }
            return given;
        }

        boolean isRaw(int type) {
            return type >= 0 && type < ROWS && raw[type];
        }

        /** Whether there is a VARIABLE in it. */
        boolean isOpen(int type) {
            return type >= 0 && type < ROWS && open[type];
        }

        boolean canBeArgument(int type) {
            return formOf(type) > NULL;
        }

        boolean canBeElement(int type) {
            return formOf(type) != VOID && formOf(type) != NULL;
        }

        /** What a call has made on its way may go, when nothing of it is asked for any more. */
        int mark() {
            return top;
        }

        void release(int mark) {
            if (mark >= MOST_NODES && mark <= top) {
                top = mark;
            }
        }

        void forget() {
            top = MOST_NODES;
            full = false;
        }

        /**
         * The row of an ARRAY of a TYPE, or of a CLASS TYPE in an OUTER one (inside), a new one if there is none.
         * Without room it is some other row, and the call's answer will be ROOM.
         */
        int shaped(int newForm, int declaration, int inside, int first, int second, int third) {
            int free = MOST_NODES - nodes;
            for (int k = OBJECT_NODE; k < top - free; k++) {
                int i = k < nodes ? k : k + free;
                if (form[i] == newForm && owner[i] == declaration && inner[i] == inside
                        && arguments[i * MOST_PLACES] == first && arguments[i * MOST_PLACES + 1] == second
                        && arguments[i * MOST_PLACES + 2] == third) {
                    return i;
                }
            }
            int row = keeping ? nodes : top;
            if (row >= (keeping ? MOST_NODES : ROWS)) {
                full = true;
                return OBJECT_NODE;
            }
            form[row] = newForm;
            owner[row] = declaration;
            place[row] = NONE;
            inner[row] = inside;
            arguments[row * MOST_PLACES] = first;
            arguments[row * MOST_PLACES + 1] = second;
            arguments[row * MOST_PLACES + 2] = third;
            int total = 1;
            boolean opened = false;
            for (int i = 0; i <= MOST_PLACES; i++) {
                int part = i < MOST_PLACES ? (arguments[row * MOST_PLACES + i] >> 2) - 1 : inside;
                if (part >= 0 && part < ROWS) {
                    total += size[part];
                    opened |= open[part];
                }
            }
            // A TYPE on the way may be of any SIZE; beyond the limit one is as good as another.
            size[row] = Math.min(total, MOST_SIZE + 1);
            open[row] = opened;
            boolean lacking = first == NONE && declaration >= 0 && declaration < MOST_DECLARATIONS
                    && declarations.parameters[declaration] > 0;
            boolean insideRaw = inside >= 0 && inside < ROWS && raw[inside];
            raw[row] = newForm == CLASS && (lacking || insideRaw);
            if (keeping) {
                nodes++;
            } else {
                top++;
            }
            return row;
        }

        /** The TYPE as a NODE, its parts ahead of it; ROOM, and none comes, if they are too many or too large. */
        int answer(int type) {
            if (full || type < 0 || type >= ROWS || size[type] > MOST_SIZE) {
                return ROOM;
            }
            int before = nodes;
            top = MOST_NODES;
            keeping = true;
            int node = keep(type, 0);
            keeping = false;
            if (full) {
                nodes = before;
                return ROOM;
            }
            return node;
        }

        private int keep(int type, int depth) {
            if (type < MOST_NODES || type >= ROWS || depth > DEEPEST) {
                return type;
            }
            int inside = keep(inner[type], depth + 1);
            int first = keepArgument(arguments[type * MOST_PLACES], depth);
            int second = keepArgument(arguments[type * MOST_PLACES + 1], depth);
            int third = keepArgument(arguments[type * MOST_PLACES + 2], depth);
            return shaped(form[type], owner[type], inside, first, second, third);
        }

        private int keepArgument(int argument, int depth) {
            int type = typeOf(argument);
            return type == NONE ? argument : argumentOf(wildOf(argument), keep(type, depth + 1));
        }
    }

    /** ERASED, PUT IN, SUPER, and what is whole. */
    private static final class Forms {
        private final Declarations declarations;
        private final Types types;

        Forms(Declarations declarations, Types types) {
            this.declarations = declarations;
            this.types = types;
        }

        int erase(int type) {
            int base = type;
            int dimensions = 0;
            while (types.formOf(base) == ARRAY && dimensions < ROWS) {
                base = types.elementOf(base);
                dimensions++;
            }
            for (int i = 0; i <= MOST_PLACES && types.formOf(base) == VARIABLE; i++) {
                int first = declarations.boundAt(types.ownerOf(base), types.placeOf(base), 0);
                base = first == NONE ? OBJECT_NODE : first;
            }
            if (types.formOf(base) == CLASS) {
                int declaration = types.ownerOf(base);
                base = NONE;
                for (int d = 0; d <= declaration; d++) {
                    if (declarations.isWithin(declaration, d)) {
                        base = types.shaped(CLASS, d, base, NONE, NONE, NONE);
                    }
                }
            }
            for (int i = 0; i < dimensions; i++) {
                base = types.shaped(ARRAY, NONE, base, NONE, NONE, NONE);
            }
            return base;
        }

        private int putIn(int type, int by, int depth) {
            if (types.isRaw(by)) {
                return erase(type);
            }
            if (!types.isOpen(type) || depth > DEEPEST) {
                return type;
            }
            if (types.formOf(type) == VARIABLE) {
                int teller = tellerOf(type, by);
                int wild = wildOf(teller);
                if (teller == NONE) {
                    return type;
                }
                return wild == EXACT || wild == UP_TO ? typeOf(teller) : erase(type);
            }
            if (types.formOf(type) == ARRAY) {
                int element = putIn(types.elementOf(type), by, depth + 1);
                return types.shaped(ARRAY, NONE, element, NONE, NONE, NONE);
            }
            int outer = putIn(types.outerOf(type), by, depth + 1);
            int first = putInArgument(types.argumentAt(type, 0), by, depth);
            int second = putInArgument(types.argumentAt(type, 1), by, depth);
            int third = putInArgument(types.argumentAt(type, 2), by, depth);
            return types.shaped(CLASS, types.ownerOf(type), outer, first, second, third);
        }

        private int putInArgument(int argument, int by, int depth) {
            int type = typeOf(argument);
            if (type == NONE) {
                return argument;
            }
            if (types.formOf(type) != VARIABLE) {
                return argumentOf(wildOf(argument), putIn(type, by, depth + 1));
            }
            int teller = tellerOf(type, by);
            return teller == NONE ? argument : told(wildOf(argument), teller);
        }

        /** The ARGUMENT of a CLASS TYPE, or of one around it, that tells a VARIABLE. */
        private int tellerOf(int variable, int by) {
            int at = by;
            for (int i = 0; i < MOST_DECLARATIONS && at != NONE; i++) {
                if (types.ownerOf(at) == types.ownerOf(variable)) {
                    return types.argumentAt(at, types.placeOf(variable));
                }
                at = types.outerOf(at);
            }
            return NONE;
        }

        private static int told(int wild, int teller) {
            if (wild == EXACT) {
                return teller;
            }
            boolean fits = wildOf(teller) == EXACT || wildOf(teller) == wild;
            return fits ? argumentOf(wild, typeOf(teller)) : ANY;
        }

        int superOf(int type, int declaration) {
            int at = type;
            for (int i = 0; i < MOST_DECLARATIONS; i++) {
                if (types.ownerOf(at) == declaration) {
                    return at;
                }
                int parent = declarations.parentToward(types.ownerOf(at), declaration);
                if (parent == NONE) {
                    return NONE;
                }
                at = putIn(parent, at, 0);
            }
            return NONE;
        }

        boolean isWhole(int type) {
            int at = type;
            for (int i = 0; i < ROWS && types.formOf(at) == ARRAY; i++) {
                at = types.elementOf(at);
            }
            if (types.formOf(at) == VARIABLE) {
                return false;
            }
            if (types.isRaw(at)) {
                return true;
            }
            for (int i = 0; i < MOST_DECLARATIONS && at != NONE; i++) {
                for (int k = 0; k < types.argumentsOf(at); k++) {
                    if (types.argumentAt(at, k) != ANY) {
                        return false;
                    }
                }
                at = types.outerOf(at);
            }
            return true;
        }
    }

    /** BELOW, and IN. */
    private static final class Order {
        private final Declarations declarations;
        private final Types types;
        private final Forms forms;

        Order(Declarations declarations, Types types, Forms forms) {
            this.declarations = declarations;
            this.types = types;
            this.forms = forms;
        }

        private int ask(int a, int b, int depth) {
            if (depth >= TOO_DEEP) {
                return 0;
            }
            if (a == b) {
                return 1;
            }
            int form = types.formOf(a);
            int other = types.formOf(b);
            if (form == PRIMITIVE && other == PRIMITIVE) {
                return isNarrower(a, b) ? 1 : 0;
            }
            if (form <= VOID || other <= NULL) {
                return 0;
            }
            if (form == NULL || b == OBJECT_NODE) {
                return 1;
            }
            if (form == VARIABLE) {
                return askBounds(a, b, depth);
            }
            if (form == ARRAY && other == ARRAY) {
                return askElements(types.elementOf(a), types.elementOf(b), depth);
            }
            return form == CLASS && other == CLASS ? askClasses(a, b, depth) : 0;
        }

        private static boolean isNarrower(int a, int b) {
            if (a == CHAR || b == CHAR) {
                return a == CHAR && b >= INT;
            }
            return a >= BYTE && a < b;
        }

        private int askBounds(int variable, int b, int depth) {
            int declaration = types.ownerOf(variable);
            int place = types.placeOf(variable);
            for (int i = 0; i < declarations.boundsOf(declaration, place); i++) {
                int is = ask(declarations.boundAt(declaration, place, i), b, depth + 1);
                if (is != 0) {
                    return is;
                }
            }
            // Without BOUNDS it is OBJECT's TYPE, which is BELOW itself only, and that b is not here.
            return 0;
        }

        private int askElements(int a, int b, int depth) {
            boolean plain = types.formOf(a) <= NULL || types.formOf(b) <= NULL;
            return plain ? 0 : ask(a, b, depth + 1);
        }

        private int askClasses(int a, int b, int depth) {
            int mark = types.mark();
            int found = forms.superOf(a, types.ownerOf(b));
            int is = found == NONE ? 0 : askSame(found, b, depth);
            types.release(mark);
            return is;
        }

        /** For two CLASS TYPES of one DECLARATION. */
        private int askSame(int a, int b, int depth) {
            if (types.isRaw(b)) {
                return 1;
            }
            if (types.isRaw(a)) {
                return UNCHECKED;
            }
            if (types.outerOf(a) != types.outerOf(b)) {
                return 0;
            }
            int all = 1;
            for (int i = 0; i < types.argumentsOf(b); i++) {
                int is = askIn(types.argumentAt(a, i), types.argumentAt(b, i), depth);
                if (is == 0) {
                    return 0;
                }
                all = Math.max(all, is);
            }
            return all;
        }

        private int askIn(int x, int y, int depth) {
            int wild = wildOf(y);
            if (wild == ANY) {
                return 1;
            }
            if (wild == EXACT) {
                return x == y ? 1 : 0;
            }
            if (wildOf(x) != EXACT && wildOf(x) != wild) {
                return 0;
            }
            return wild == UP_TO ? ask(typeOf(x), typeOf(y), depth + 1) : ask(typeOf(y), typeOf(x), depth + 1);
        }
    }

    /** The RULES of BOUNDS, PARENTS and CLASS TYPES: the number of the one that is broken, or 0. */
    private static final class Rules {
        private final Declarations declarations;
        private final Types types;
        private final Forms forms;
        private final Order order;

        Rules(Declarations declarations, Types types, Forms forms, Order order) {
            this.declarations = declarations;
            this.types = types;
            this.forms = forms;
            this.order = order;
        }

        int ofBound(int declaration, int place, int node) {
            boolean variable = types.formOf(node) == VARIABLE;
            if (variable ? types.ownerOf(node) != declaration : !isAsTold(declaration, node)) {
                return 2;
            }
            int first = declarations.boundAt(declaration, place, 0);
            if (first != NONE && (variable || types.formOf(first) == VARIABLE)) {
                return 4;
            }
            if (first != NONE && !declarations.isInterface(types.ownerOf(node))) {
                return 5;
            }
            return comesTo(node, declarations.variableAt(declaration, place)) ? 6 : 0;
        }

        int ofParent(int declaration, int node) {
            if (!isAsTold(declaration, node)) {
                return 2;
            }
            if (types.ownerOf(node) >= declaration) {
                return 7;
            }
            boolean interfaceDue = declarations.isInterface(declaration) || declarations.parentsOf(declaration) > 0;
            return interfaceDue && !declarations.isInterface(types.ownerOf(node)) ? 8 : 0;
        }

        /** Such a form keeps what is PUT IN by it flat: a PARENT gives one new TYPE. */
        private boolean isAsTold(int declaration, int node) {
            if (types.formOf(node) != CLASS || types.isOpen(types.outerOf(node))) {
                return false;
            }
            for (int i = 0; i < types.argumentsOf(node); i++) {
                int argument = types.argumentAt(node, i);
                int type = typeOf(argument);
                boolean own = wildOf(argument) == EXACT && types.formOf(type) == VARIABLE
                        && types.ownerOf(type) == declaration;
                if (types.isOpen(type) && !own) {
                    return false;
                }
            }
            return true;
        }

        private boolean comesTo(int node, int variable) {
            int at = node;
            for (int i = 0; i <= MOST_PLACES && types.formOf(at) == VARIABLE; i++) {
                if (at == variable) {
                    return true;
                }
                at = declarations.boundAt(types.ownerOf(at), types.placeOf(at), 0);
            }
            return false;
        }

        int ofMade(int declaration, int outer, int first, int second, int third) {
            int rule = ofMadeShape(declaration, outer, first, second, third);
            if (rule != 0 || first == NONE) {
                return rule;
            }
            int mark = types.mark();
            int made = types.shaped(CLASS, declaration, outer, first, second, third);
            for (int place = 0; place < declarations.parametersOf(declaration) && rule == 0; place++) {
                int argument = types.argumentAt(made, place);
                for (int i = 0; i < declarations.boundsOf(declaration, place) && wildOf(argument) == EXACT; i++) {
                    int limit = forms.putIn(declarations.boundAt(declaration, place, i), made, 0);
                    if (order.ask(typeOf(argument), limit, 0) == 0) {
                        rule = 13;
                    }
                }
            }
            types.release(mark);
            return rule;
        }

        private int ofMadeShape(int declaration, int outer, int first, int second, int third) {
            int given = (first == NONE ? 0 : 1) + (second == NONE ? 0 : 1) + (third == NONE ? 0 : 1);
            if (given > 0 && given != declarations.parametersOf(declaration)) {
                return 10;
            }
            int due = declarations.outerOf(declaration);
            boolean fits = types.formOf(outer) == CLASS && types.ownerOf(outer) == due;
            if (due == NONE ? outer != NONE : !fits) {
                return 11;
            }
            return given > 0 && types.isRaw(outer) ? 12 : 0;
        }
    }

    /** THE TAPE, and the TEXT on it. */
    private static final class Reader {
        private final Declarations declarations;
        private final Types types;
        private final Rules rules;
        private final int[] tape = new int[MOST_TAPE];
        private int length;
        private int at;
        private int fault;

        Reader(Declarations declarations, Types types, Rules rules) {
            this.declarations = declarations;
            this.types = types;
            this.rules = rules;
        }

        int length() {
            return length;
        }

        int take(int n, long w) {
            if (length + n > MOST_TAPE) {
                return ROOM;
            }
            for (int i = n - 1; i >= 0 && length < MOST_TAPE; i--) {
                tape[length] = (int) (w >>> 8 * i & 255);
                length++;
            }
            return length;
        }

        void start() {
            at = 0;
            fault = NONE;
        }

        /** The place of the FAULT, or NONE; THE TAPE is taken. */
        int finish() {
            if (fault == NONE && at < length) {
                fault = at;
            }
            length = 0;
            return fault;
        }

        private int next() {
            return at >= 0 && at < length && at < MOST_TAPE ? tape[at] : NONE;
        }

        private int faultAt(int place) {
            fault = place;
            return NONE;
        }

        /** The TYPE whose TEXT begins here, or NONE with a FAULT. */
        private int typeText(int depth) {
            int type = baseText(depth);
            for (int i = 0; i < MOST_TAPE && fault == NONE && next() == '['; i++) {
                if (!types.canBeElement(type)) {
                    return faultAt(at);
                }
                at++;
                if (next() != ']') {
                    return faultAt(at);
                }
                at++;
                type = types.shaped(ARRAY, NONE, type, NONE, NONE, NONE);
            }
            return type;
        }

        private int baseText(int depth) {
            int first = next();
            if (first >= '0' && first <= '9') {
                at++;
                return first - '0';
            }
            if (first >= 'a' && first <= 'l') {
                return variableText(first - 'a');
            }
            int type = NONE;
            for (int i = 0; i < MOST_TAPE && depth <= DEEPEST; i++) {
                type = partText(type, depth);
                if (fault != NONE || next() != '.') {
                    return type;
                }
                at++;
            }
            return faultAt(at);
        }

        private int variableText(int declaration) {
            if (!declarations.has(declaration)) {
                return faultAt(at);
            }
            at++;
            int variable = declarations.variableAt(declaration, next() - '0');
            if (variable == NONE) {
                return faultAt(at);
            }
            at++;
            return variable;
        }

        private int partText(int outer, int depth) {
            int letter = at;
            int declaration = next() - 'A';
            if (!declarations.has(declaration)) {
                return faultAt(at);
            }
            at++;
            int first = NONE;
            int second = NONE;
            int third = NONE;
            if (next() == '<') {
                first = argumentText(depth);
                second = fault == NONE && next() == ',' ? argumentText(depth) : NONE;
                third = fault == NONE && next() == ',' ? argumentText(depth) : NONE;
                if (fault != NONE) {
                    return NONE;
                }
                if (next() != '>') {
                    return faultAt(at);
                }
                at++;
            }
            if (rules.ofMade(declaration, outer, first, second, third) != 0) {
                return faultAt(letter);
            }
            return types.shaped(CLASS, declaration, outer, first, second, third);
        }

        /** The ARGUMENT behind the byte that is next, < or a comma. */
        private int argumentText(int depth) {
            at++;
            int sign = next();
            if (sign == '?') {
                at++;
                return ANY;
            }
            int wild = sign == '+' ? UP_TO : sign == '-' ? FROM : EXACT;
            if (wild != EXACT) {
                at++;
            }
            int begin = at;
            int type = typeText(depth + 1);
            if (fault != NONE) {
                return NONE;
            }
            return types.canBeArgument(type) ? argumentOf(wild, type) : faultAt(begin);
        }
    }

    /** OUT. */
    private static final class Printer {
        private final Types types;
        private final int[] text = new int[MOST_OUT];
        private final int[] line = new int[MOST_OUT];
        private int length;
        private int written;

        Printer(Types types) {
            this.types = types;
        }

        int length() {
            return length;
        }

        int byteAt(int i) {
            return i >= 0 && i < length && i < MOST_OUT ? text[i] : NONE;
        }

        int put(int node) {
            written = 0;
            writeType(node, 0);
            if (written > MOST_OUT) {
                return ROOM;
            }
            System.arraycopy(line, 0, text, 0, written);
            length = written;
            return length;
        }

        /** Counts on beyond the line's end, so that a TEXT that is too long is seen to be so. */
        private void write(int letter) {
            if (written < MOST_OUT) {
                line[written] = letter;
            }
            written++;
        }

        private void writeType(int type, int depth) {
            int form = types.formOf(type);
            if (depth > DEEPEST) {
                return;
            }
            if (form <= NULL) {
                write('0' + type);
            } else if (form == VARIABLE) {
                write('a' + types.ownerOf(type));
                write('0' + types.placeOf(type));
            } else if (form == ARRAY) {
                writeType(types.elementOf(type), depth + 1);
                write('[');
                write(']');
            } else {
                if (types.outerOf(type) != NONE) {
                    writeType(types.outerOf(type), depth + 1);
                    write('.');
                }
                write('A' + types.ownerOf(type));
                writeArguments(type, depth);
            }
        }

        private void writeArguments(int type, int depth) {
            int given = types.argumentsOf(type);
            for (int i = 0; i < given; i++) {
                write(i == 0 ? '<' : ',');
                int argument = types.argumentAt(type, i);
                int wild = wildOf(argument);
                if (wild != EXACT) {
                    write(wild == UP_TO ? '+' : wild == FROM ? '-' : '?');
                }
                if (wild != ANY) {
                    writeType(typeOf(argument), depth + 1);
                }
            }
            if (given > 0) {
                write('>');
            }
        }
    }
}
