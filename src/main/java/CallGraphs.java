import java.util.Arrays;

/** Who calls whom in programs of classes and faces. The document DOC.md says what each call answers. */
public final class CallGraphs {
    public static final int NONE = -1, MISSING = -2, UNLIKE = -3, BARE = -4, CLASH = -5,
            UNKNOWN = -101, OUTSIDE = -102, STATE = -103, ROOM = -104;

    private static final int MAX_TYPES = 16, MAX_FACES = 3, MAX_MEMBERS = 48, MAX_OPS = 24, MAX_ALL_OPS = 160;
    private static final int NAMES = 10, BAGS = 4;
    private static final int MAX_POOL = 20, MAX_WITHIN = 12, MAX_STEPS = 300;

    /** Between them stands 1, the ABSTRACT CLASS, of which nothing is asked by name. */
    private static final int KIND_CLASS = 0, KIND_FACE = 2;
    private static final int SORT_PLAIN = 0, SORT_BARE = 1, SORT_STATIC = 2, SORT_PRIVATE = 3, SORT_START = 4;
    private static final int OP_NEW = 0, OP_CALL = 1, OP_UP = 2, OP_STATIC = 3, OP_THREAD = 4, OP_PUT = 5,
            OP_OUT = 6, OP_ANY = 7;
    private static final int THREAD_NAME = 9;

    private final Types types;
    private final Members members;
    private final Choices choices;
    private final Ops ops;
    private final Graph graph;
    private final DrawnRun drawn;

    public CallGraphs() {
        types = new Types();
        members = new Members(types);
        choices = new Choices(types, members);
        ops = new Ops();
        graph = new Graph(types, members, choices, ops);
        drawn = new DrawnRun(types, members, choices, ops);
    }

    public int type(int kind, int above) {
        if (above != NONE && !types.knows(above)) return UNKNOWN;
        if (kind < KIND_CLASS || kind > KIND_FACE) return OUTSIDE;
        if (above != NONE && (kind == KIND_FACE || types.isFace(above))) return OUTSIDE;
        if (types.size() >= MAX_TYPES) return ROOM;
        graph.forget();
        int type = types.add(kind, above);
        choices.tellAll();
        return type;
    }

    public int face(int type, int face) {
        if (!types.knows(type) || !types.knows(face)) return UNKNOWN;
        if (!types.isFace(face) || face >= type) return OUTSIDE;
        if (types.hasFace(type, face)) return STATE;
        if (types.countFaces(type) >= MAX_FACES) return ROOM;
        graph.forget();
        int faces = types.addFace(type, face);
        choices.tellAll();
        return faces;
    }

    public int member(int type, int name, int sort) {
        if (!types.knows(type)) return UNKNOWN;
        if (sort < SORT_PLAIN || sort > SORT_START) return OUTSIDE;
        if (sort != SORT_START && !isName(name)) return OUTSIDE;
        if (sort == SORT_BARE && types.kindOf(type) == KIND_CLASS) return OUTSIDE;
        int there = sort == SORT_START ? members.startOf(type) : members.named(type, name);
        if (there != NONE) return STATE;
        if (members.size() >= MAX_MEMBERS) return ROOM;
        graph.forget();
        int member = members.add(type, name, sort);
        if (sort != SORT_START) choices.tell(name);
        return member;
    }

    public int op(int member, int kind, int a, int b) {
        if (!members.knows(member) || !partsKnown(kind, a, b)) return UNKNOWN;
        if (!partsFit(member, kind, a, b)) return OUTSIDE;
        if (members.sortOf(member) == SORT_BARE) return STATE;
        if (ops.sizeOf(member) >= MAX_OPS || ops.size() >= MAX_ALL_OPS) return ROOM;
        graph.forget();
        return ops.add(member, kind, a, kind == OP_THREAD ? THREAD_NAME : b);
    }

    public int root(int member, boolean is) {
        if (!members.knows(member)) return UNKNOWN;
        int sort = members.sortOf(member);
        if (sort == SORT_BARE || sort == SORT_START) return OUTSIDE;
        if (members.isRoot(member) == is) return 0;
        graph.forget();
        members.turnRoot(member);
        return 1;
    }

    public int count(int what) {
        if (what < 0 || what > 9) return OUTSIDE;
        if (what > 3) graph.refresh();
        switch (what) {
            case 0: return types.size();
            case 1: return members.size();
            case 2: return ops.size();
            case 3: return Long.bitCount(members.roots());
            case 4: return Long.bitCount(graph.reached());
            case 5: return Long.bitCount(graph.madeClasses());
            case 6: return Long.bitCount(graph.begunTypes());
            case 7: return graph.countPairs();
            case 8: return graph.countFaults();
            default: return graph.countRecursive();
        }
    }

    public int under(int type, int other) {
        if (!types.knows(type) || !types.knows(other)) return UNKNOWN;
        return types.isUnder(type, other) ? 1 : 0;
    }

    public int found(int type, int name) {
        if (!types.knows(type)) return UNKNOWN;
        if (!isName(name)) return OUTSIDE;
        return choices.find(type, name);
    }

    public int chosen(int c, int type, int name) {
        if (!types.knows(c) || !types.knows(type)) return UNKNOWN;
        if (!isName(name) || !types.isUnder(c, type)) return OUTSIDE;
        return choices.choose(c, type, name);
    }

    public int about(int member, int what) {
        if (!members.knows(member)) return UNKNOWN;
        if (what < 0 || what > 4) return OUTSIDE;
        graph.refresh();
        switch (what) {
            case 0: return Bits.has(graph.reached(), member) ? 1 : 0;
            case 1: return graph.isRecursive(member) ? 1 : 0;
            case 2: return Long.bitCount(graph.callersOf(member));
            case 3: return Long.bitCount(graph.ringOf(member));
            default: return Bits.least(graph.ringOf(member));
        }
    }

    public int made(int type, int what) {
        if (!types.knows(type)) return UNKNOWN;
        if (what < 0 || what > 1) return OUTSIDE;
        graph.refresh();
        return Bits.has(what == 0 ? graph.madeClasses() : graph.begunTypes(), type) ? 1 : 0;
    }

    public int callee(int member, int op, int i) {
        if (!members.knows(member) || !ops.knows(member, op)) return UNKNOWN;
        graph.refresh();
        return Bits.nth(graph.calleesOf(ops.at(member, op)), i);
    }

    public int faults(int member, int op, int kind) {
        if (!members.knows(member) || !ops.knows(member, op)) return UNKNOWN;
        if (kind < CLASH || kind > MISSING) return OUTSIDE;
        graph.refresh();
        if (!Bits.has(graph.reached(), member)) return 0;
        return graph.faultsOf(ops.at(member, op), kind);
    }

    public int caller(int member, int i) {
        if (!members.knows(member)) return UNKNOWN;
        graph.refresh();
        return Bits.nth(graph.callersOf(member), i);
    }

    public int way(int member, int i) {
        if (!members.knows(member)) return UNKNOWN;
        graph.refresh();
        return graph.onWay(member, i);
    }

    public int run(long seed, int what) {
        if (what < 0 || what > 5) return OUTSIDE;
        drawn.play(seed);
        switch (what) {
            case 0: return drawn.steps();
            case 1: return Long.bitCount(drawn.ran());
            case 2: return drawn.poolSize();
            case 3: return Long.bitCount(drawn.begunTypes());
            case 4: return drawn.leftCalls();
            default: return drawn.latest();
        }
    }

    public boolean holds(long seed) {
        graph.refresh();
        drawn.play(seed);
        return Bits.within(drawn.ran(), graph.reached())
                && Bits.within(drawn.begunTypes(), graph.begunTypes())
                && Bits.within(drawn.pooledClasses(), graph.madeClasses())
                && callsHold();
    }

    private boolean callsHold() {
        for (int op = 0; op < ops.size(); op++) {
            if (!Bits.within(drawn.triedBy(op), graph.calleesOf(op))) return false;
        }
        return true;
    }

    private static boolean isName(int name) {
        return name >= 0 && name < NAMES;
    }

    private static boolean isBag(int bag) {
        return bag >= 0 && bag < BAGS;
    }

    private boolean partsKnown(int kind, int a, int b) {
        switch (kind) {
            case OP_NEW:
            case OP_CALL:
            case OP_UP:
            case OP_STATIC:
            case OP_THREAD: return types.knows(a);
            case OP_PUT: return members.knows(b);
            default: return true;
        }
    }

    private boolean partsFit(int member, int kind, int a, int b) {
        switch (kind) {
            case OP_NEW: return types.kindOf(a) == KIND_CLASS;
            case OP_CALL:
            case OP_STATIC: return isName(b);
            case OP_UP: return isName(b) && types.isNextAbove(a, members.typeOf(member));
            case OP_THREAD: return true;
            case OP_PUT: return isBag(a) && members.isHandle(b);
            case OP_OUT: return isBag(a);
            case OP_ANY: return isName(b);
            default: return false;
        }
    }

    /** Sets of numbers 0 .. 63 in the bits of a long, since these cost no objects. */
    private static final class Bits {
        private static final int BITS = 64;

        static boolean has(long set, int n) {
            return (set >>> n & 1L) != 0L;
        }

        static long with(long set, int n) {
            return set | 1L << n;
        }

        static boolean within(long part, long whole) {
            return (part & ~whole) == 0L;
        }

        static int least(long set) {
            return nth(set, 0);
        }

        /** The i-th of a set by numbers, or NONE. */
        static int nth(long set, int i) {
            if (i < 0 || i >= Long.bitCount(set)) return NONE;
            int before = 0;
            for (int n = 0; n < BITS; n++) {
                if (!has(set, n)) continue;
                if (before == i) return n;
                before++;
            }
            return NONE;
        }
    }

    /** The types, and what is ABOVE each. */
    private static final class Types {
        private final int[] kinds = new int[MAX_TYPES];
        private final int[] supers = new int[MAX_TYPES];
        private final long[] faces = new long[MAX_TYPES];
        private final long[] above = new long[MAX_TYPES];
        private long allFaces;
        private int count;

        int size() {
            return count;
        }

        boolean knows(int type) {
            return type >= 0 && type < count;
        }

        int kindOf(int type) {
            return kinds[type];
        }

        boolean isFace(int type) {
            return kinds[type] == KIND_FACE;
        }

        /** Of a class its SUPER, of a face NONE. */
        int superOf(int type) {
            return supers[type];
        }

        int countFaces(int type) {
            return Long.bitCount(faces[type]);
        }

        boolean hasFace(int type, int face) {
            return Bits.has(faces[type], face);
        }

        long facesAbove(int type) {
            return above[type] & allFaces;
        }

        long above(int type) {
            return above[type];
        }

        boolean isUnder(int type, int other) {
            return type == other || Bits.has(above[type], other);
        }

        /** Whether a type is the SUPER or one of the FACES of another one. */
        boolean isNextAbove(int type, int other) {
            return supers[other] == type || hasFace(other, type);
        }

        int add(int kind, int superType) {
            int type = count;
            kinds[type] = kind;
            supers[type] = superType;
            if (kind == KIND_FACE) allFaces = Bits.with(allFaces, type);
            count++;
            tellAbove();
            return type;
        }

        int addFace(int type, int face) {
            faces[type] = Bits.with(faces[type], face);
            tellAbove();
            return countFaces(type);
        }

        /** Of all types anew, as a face that comes late is ABOVE more than one; in one pass, as numbers lessen upward. */
        private void tellAbove() {
            for (int type = 0; type < count; type++) {
                long next = faces[type];
                if (supers[type] != NONE) next = Bits.with(next, supers[type]);
                long set = next;
                for (int other = 0; other < type; other++) {
                    if (Bits.has(next, other)) set |= above[other];
                }
                above[type] = set;
            }
        }
    }

    /** The members, and which types have what sort of them. */
    private static final class Members {
        private final Types types;
        private final int[] owners = new int[MAX_MEMBERS];
        private final int[] sorts = new int[MAX_MEMBERS];
        private final int[] byName = new int[MAX_TYPES * NAMES];
        private final int[] starts = new int[MAX_TYPES];
        /** Of each NAME: the members that a BAG may hold and ANY may call. */
        private final long[] handles = new long[NAMES];
        /** Of each NAME: the types whose member is PLAIN or BARE, so that types below have it too. */
        private final long[] passers = new long[NAMES];
        private long plain;
        private long plainTypes;
        private long roots;
        private int count;

        Members(Types types) {
            this.types = types;
            Arrays.fill(byName, NONE);
            Arrays.fill(starts, NONE);
        }

        int size() {
            return count;
        }

        boolean knows(int member) {
            return member >= 0 && member < count;
        }

        int typeOf(int member) {
            return owners[member];
        }

        int sortOf(int member) {
            return sorts[member];
        }

        int named(int type, int name) {
            return byName[type * NAMES + name];
        }

        int startOf(int type) {
            return starts[type];
        }

        long handlesOf(int name) {
            return handles[name];
        }

        long passersOf(int name) {
            return passers[name];
        }

        long plainOnes() {
            return plain;
        }

        boolean isHandle(int member) {
            return sorts[member] != SORT_BARE && sorts[member] != SORT_START;
        }

        long roots() {
            return roots;
        }

        boolean isRoot(int member) {
            return Bits.has(roots, member);
        }

        void turnRoot(int member) {
            roots ^= 1L << member;
        }

        int add(int type, int name, int sort) {
            int member = count;
            owners[member] = type;
            sorts[member] = sort;
            count++;
            if (sort == SORT_START) starts[type] = member;
            else addNamed(member, type, name);
            return member;
        }

        private void addNamed(int member, int type, int name) {
            byName[type * NAMES + name] = member;
            int sort = sorts[member];
            if (isHandle(member)) handles[name] = Bits.with(handles[name], member);
            if (sort == SORT_PLAIN || sort == SORT_BARE) passers[name] = Bits.with(passers[name], type);
            if (sort == SORT_PLAIN) {
                plain = Bits.with(plain, member);
                plainTypes = Bits.with(plainTypes, type);
            }
        }

        /** The faces that are BEGUN with a type. */
        long facesBegunWith(int type) {
            return types.isFace(type) ? 0L : types.facesAbove(type) & plainTypes;
        }
    }

    /** What is FOUND and CHOSEN. All is told anew at each change, so that to ask is a look into a row. */
    private static final class Choices {
        private final Types types;
        private final Members members;
        private final int[] finds = new int[MAX_TYPES * NAMES];
        /** What is CHOSEN for a type, of whatever is FOUND that is PLAIN or BARE. */
        private final int[] picks = new int[MAX_TYPES * NAMES];

        Choices(Types types, Members members) {
            this.types = types;
            this.members = members;
        }

        void tellAll() {
            for (int name = 0; name < NAMES; name++) tell(name);
        }

        void tell(int name) {
            for (int type = 0; type < types.size(); type++) {
                long left = leftOf(type, name);
                long plainLeft = left & members.plainOnes();
                finds[type * NAMES + name] = tellFound(type, name, left, plainLeft);
                picks[type * NAMES + name] = tellPicked(type, name, plainLeft);
            }
        }

        private int tellFound(int type, int name, long left, long plainLeft) {
            int at = type;
            for (int n = 0; n < MAX_TYPES && at != NONE; n++) {
                int member = members.named(at, name);
                if (member != NONE) return member;
                at = types.superOf(at);
            }
            return Bits.least(Long.bitCount(plainLeft) == 1 ? plainLeft : left);
        }

        private int tellPicked(int type, int name, long plainLeft) {
            long passers = members.passersOf(name);
            int at = type;
            for (int n = 0; n < MAX_TYPES && at != NONE; n++) {
                if (Bits.has(passers, at)) return plainOrBare(members.named(at, name));
                at = types.superOf(at);
            }
            if (plainLeft == 0L) return BARE;
            return Long.bitCount(plainLeft) == 1 ? Bits.least(plainLeft) : CLASH;
        }

        private int plainOrBare(int member) {
            return members.sortOf(member) == SORT_PLAIN ? member : BARE;
        }

        /** LEFT of a type, should neither it nor a SUPER have the NAME. */
        private long leftOf(int type, int name) {
            long holders = types.facesAbove(type) & members.passersOf(name);
            if (holders == 0L) return 0L;
            long hidden = 0L;
            for (int face = 0; face < type; face++) {
                if (Bits.has(holders, face)) hidden |= types.above(face);
            }
            long left = 0L;
            for (int face = 0; face < type; face++) {
                if (Bits.has(holders & ~hidden, face)) left = Bits.with(left, members.named(face, name));
            }
            return left;
        }

        /** What is FOUND, or NONE. */
        int find(int type, int name) {
            return finds[type * NAMES + name];
        }

        /** What is CHOSEN for c of what is FOUND in a type, or a FAULT. */
        int choose(int c, int type, int name) {
            int member = finds[type * NAMES + name];
            if (member == NONE) return MISSING;
            int sort = members.sortOf(member);
            if (sort == SORT_STATIC) return UNLIKE;
            return sort == SORT_PRIVATE ? member : picks[c * NAMES + name];
        }

        /** What STATIC comes to, or a FAULT. */
        int chooseStatic(int type, int name) {
            int member = finds[type * NAMES + name];
            if (member == NONE) return MISSING;
            return members.sortOf(member) == SORT_STATIC ? member : UNLIKE;
        }
    }

    /** The OPS, numbered in all as they came, and by their places in a member. */
    private static final class Ops {
        private final int[] kinds = new int[MAX_ALL_OPS];
        private final int[] as = new int[MAX_ALL_OPS];
        private final int[] bs = new int[MAX_ALL_OPS];
        private final int[] counts = new int[MAX_MEMBERS];
        private final int[] places = new int[MAX_MEMBERS * MAX_OPS];
        private int count;

        int size() {
            return count;
        }

        int sizeOf(int member) {
            return counts[member];
        }

        boolean knows(int member, int place) {
            return place >= 0 && place < counts[member];
        }

        int at(int member, int place) {
            return places[member * MAX_OPS + place];
        }

        int kindOf(int op) {
            return kinds[op];
        }

        int a(int op) {
            return as[op];
        }

        int b(int op) {
            return bs[op];
        }

        int add(int member, int kind, int a, int b) {
            int place = counts[member];
            kinds[count] = kind;
            as[count] = a;
            bs[count] = b;
            places[member * MAX_OPS + place] = count;
            count++;
            counts[member]++;
            return place;
        }
    }

    /** THE GRAPH of the program as it stands; made anew when it is asked for behind a change. */
    private static final class Graph {
        /** Each pass but the last one adds a member, a class, a type, or a member of a BAG. */
        private static final int MAX_PASSES = MAX_MEMBERS + 2 * MAX_TYPES + BAGS * MAX_MEMBERS + 1;

        private final Types types;
        private final Members members;
        private final Choices choices;
        private final Ops ops;
        private final long[] bags = new long[BAGS];
        /** Of each OP: its CALLEES; none, if its member is not REACHED. */
        private final long[] callees = new long[MAX_ALL_OPS];
        /** Of each member: the CALLEES of all its OPS. */
        private final long[] calls = new long[MAX_MEMBERS];
        /** Of each member: those to which one comes from it. */
        private final long[] comes = new long[MAX_MEMBERS];
        /** The members from which the end of a WAY is 0, 1, .. calls away. */
        private final long[] layers = new long[MAX_MEMBERS];
        private long reached;
        private long made;
        private long begun;
        private boolean fresh;

        Graph(Types types, Members members, Choices choices, Ops ops) {
            this.types = types;
            this.members = members;
            this.choices = choices;
            this.ops = ops;
        }

        void forget() {
            fresh = false;
        }

        void refresh() {
            if (fresh) return;
            clear();
            int before = -1;
            for (int pass = 0; pass < MAX_PASSES && before != sizeOfAll(); pass++) {
                before = sizeOfAll();
                serveReached();
            }
            joinCalls();
            closeCalls();
            fresh = true;
        }

        private void clear() {
            reached = members.roots();
            made = 0L;
            begun = 0L;
            Arrays.fill(bags, 0L);
            Arrays.fill(callees, 0L);
            Arrays.fill(calls, 0L);
        }

        /** Sets only grow here, so a pass that leaves this number as it was has changed none. */
        private int sizeOfAll() {
            int n = Long.bitCount(reached) + Long.bitCount(made) + Long.bitCount(begun);
            for (int bag = 0; bag < BAGS; bag++) n += Long.bitCount(bags[bag]);
            return n;
        }

        private void serveReached() {
            for (int member = 0; member < members.size(); member++) {
                if (!Bits.has(reached, member)) continue;
                for (int place = 0; place < ops.sizeOf(member); place++) {
                    int op = ops.at(member, place);
                    serve(op);
                    reached |= callees[op];
                }
            }
        }

        private void serve(int op) {
            int a = ops.a(op);
            int b = ops.b(op);
            switch (ops.kindOf(op)) {
                case OP_NEW:
                    made = Bits.with(made, a);
                    begin(op, a);
                    break;
                case OP_CALL:
                case OP_THREAD:
                    serveMade(op, a, b);
                    break;
                case OP_UP:
                    addCallee(op, choices.choose(a, a, b));
                    break;
                case OP_STATIC:
                    serveStatic(op, choices.chooseStatic(a, b));
                    break;
                case OP_PUT:
                    bags[a] = Bits.with(bags[a], b);
                    break;
                case OP_OUT:
                    callees[op] |= bags[a];
                    break;
                default:
                    callees[op] |= members.handlesOf(b);
                    break;
            }
        }

        private void serveMade(int op, int type, int name) {
            for (int c = 0; c < types.size(); c++) {
                if (!Bits.has(made, c) || !types.isUnder(c, type)) continue;
                addCallee(op, choices.choose(c, type, name));
            }
        }

        private void serveStatic(int op, int member) {
            if (member < 0) return;
            addCallee(op, member);
            begin(op, members.typeOf(member));
        }

        private void begin(int op, int type) {
            long set = members.facesBegunWith(type);
            int at = type;
            for (int n = 0; n < MAX_TYPES && at != NONE; n++) {
                set = Bits.with(set, at);
                at = types.superOf(at);
            }
            begun |= set;
            for (int other = 0; other <= type; other++) {
                if (Bits.has(set, other)) addCallee(op, members.startOf(other));
            }
        }

        /** NONE and FAULTS, which are less than 0, are no CALLEES. */
        private void addCallee(int op, int member) {
            if (member >= 0) callees[op] |= 1L << member;
        }

        private void joinCalls() {
            for (int member = 0; member < members.size(); member++) {
                for (int place = 0; place < ops.sizeOf(member); place++) {
                    calls[member] |= callees[ops.at(member, place)];
                }
            }
        }

        private void closeCalls() {
            System.arraycopy(calls, 0, comes, 0, MAX_MEMBERS);
            for (int through = 0; through < members.size(); through++) {
                for (int member = 0; member < members.size(); member++) {
                    if (Bits.has(comes[member], through)) comes[member] |= comes[through];
                }
            }
        }

        long reached() {
            return reached;
        }

        long madeClasses() {
            return made;
        }

        long begunTypes() {
            return begun;
        }

        long calleesOf(int op) {
            return callees[op];
        }

        long callersOf(int member) {
            return callersOfAny(1L << member);
        }

        private long callersOfAny(long set) {
            long callers = 0L;
            for (int member = 0; member < members.size(); member++) {
                if ((calls[member] & set) != 0L) callers = Bits.with(callers, member);
            }
            return callers;
        }

        boolean isRecursive(int member) {
            return Bits.has(comes[member], member);
        }

        long ringOf(int member) {
            long set = 0L;
            for (int other = 0; other < members.size(); other++) {
                if (Bits.has(comes[member], other) && Bits.has(comes[other], member)) set = Bits.with(set, other);
            }
            return set;
        }

        int countRecursive() {
            int n = 0;
            for (int member = 0; member < members.size(); member++) {
                if (isRecursive(member)) n++;
            }
            return n;
        }

        int countPairs() {
            int n = 0;
            for (int op = 0; op < ops.size(); op++) n += Long.bitCount(callees[op]);
            return n;
        }

        int countFaults() {
            int n = 0;
            for (int member = 0; member < members.size(); member++) {
                if (!Bits.has(reached, member)) continue;
                for (int place = 0; place < ops.sizeOf(member); place++) n += allFaultsOf(ops.at(member, place));
            }
            return n;
        }

        private int allFaultsOf(int op) {
            int n = 0;
            for (int kind = CLASH; kind <= MISSING; kind++) n += faultsOf(op, kind);
            return n;
        }

        /** How many FAULTS of a kind an OP of a REACHED member has. */
        int faultsOf(int op, int kind) {
            int a = ops.a(op);
            int b = ops.b(op);
            switch (ops.kindOf(op)) {
                case OP_CALL:
                case OP_THREAD: return faultsOfMade(a, b, kind);
                case OP_UP: return choices.choose(a, a, b) == kind ? 1 : 0;
                case OP_STATIC: return choices.chooseStatic(a, b) == kind ? 1 : 0;
                default: return 0;
            }
        }

        private int faultsOfMade(int type, int name, int kind) {
            int n = 0;
            for (int c = 0; c < types.size(); c++) {
                if (!Bits.has(made, c) || !types.isUnder(c, type)) continue;
                if (choices.choose(c, type, name) == kind) n++;
            }
            // What is FOUND does not depend on the class, so these are told once.
            return kind == MISSING || kind == UNLIKE ? Math.min(n, 1) : n;
        }

        /** The i-th member of THE WAY to a member, or NONE. */
        int onWay(int end, int i) {
            if (!Bits.has(reached, end)) return NONE;
            int away = layWay(end);
            if (i < 0 || i > away) return NONE;
            int at = Bits.least(layers[away] & members.roots());
            for (int n = 1; n <= i && at != NONE; n++) at = Bits.least(layers[away - n] & calls[at]);
            return at;
        }

        /** Fills the layers back from the end to the first one with a ROOT: how many calls that is away, or NONE. */
        private int layWay(int end) {
            long layer = 1L << end;
            for (int away = 0; away < MAX_MEMBERS; away++) {
                layers[away] = layer;
                if ((layer & members.roots()) != 0L) return away;
                layer = callersOfAny(layer);
            }
            return NONE;
        }
    }

    /** A RUN by a SEED, and what it left behind. */
    private static final class DrawnRun {
        private static final long FACTOR = 6364136223846793005L, SUMMAND = 1442695040888963407L;
        private static final int LEAVE_OUT = 4;

        private final Types types;
        private final Members members;
        private final Choices choices;
        private final Ops ops;
        private final int[] pool = new int[MAX_POOL];
        private final int[] bagged = new int[BAGS * MAX_MEMBERS];
        private final int[] bagCounts = new int[BAGS];
        /** Of each OP: what it ran, or was to run. */
        private final long[] tried = new long[MAX_ALL_OPS];
        private long x;
        private long ran;
        private long begun;
        private int poolCount;
        private int steps;
        private int left;
        private int latest;

        DrawnRun(Types types, Members members, Choices choices, Ops ops) {
            this.types = types;
            this.members = members;
            this.choices = choices;
            this.ops = ops;
        }

        int steps() {
            return steps;
        }

        long ran() {
            return ran;
        }

        int poolSize() {
            return poolCount;
        }

        long begunTypes() {
            return begun;
        }

        int leftCalls() {
            return left;
        }

        int latest() {
            return latest;
        }

        long triedBy(int op) {
            return tried[op];
        }

        long pooledClasses() {
            long set = 0L;
            for (int place = 0; place < poolCount; place++) set = Bits.with(set, pool[place]);
            return set;
        }

        void play(long seed) {
            clear();
            x = seed;
            for (int member = 0; member < members.size(); member++) {
                if (members.isRoot(member)) enter(member, 0);
            }
        }

        private void clear() {
            Arrays.fill(bagCounts, 0);
            Arrays.fill(tried, 0L);
            ran = 0L;
            begun = 0L;
            poolCount = 0;
            steps = 0;
            left = 0;
            latest = NONE;
        }

        private int draw(int n) {
            x = x * FACTOR + SUMMAND;
            return n <= 0 ? 0 : (int) ((x >>> 33) % n);
        }

        /** Runs a member within so many others, unless that is too deep or too late. */
        private void enter(int member, int within) {
            if (within >= MAX_WITHIN || steps >= MAX_STEPS) {
                left++;
                return;
            }
            steps++;
            ran = Bits.with(ran, member);
            latest = member;
            for (int place = 0; place < ops.sizeOf(member); place++) {
                if (draw(LEAVE_OUT) != 0) perform(ops.at(member, place), within + 1);
            }
        }

        private void perform(int op, int within) {
            int a = ops.a(op);
            int b = ops.b(op);
            switch (ops.kindOf(op)) {
                case OP_NEW:
                    begin(a, op, within);
                    if (poolCount < MAX_POOL) pool[poolCount++] = a;
                    break;
                case OP_CALL:
                case OP_THREAD:
                    callPooled(op, within);
                    break;
                case OP_UP:
                    enterBy(op, choices.choose(a, a, b), within);
                    break;
                case OP_STATIC:
                    callStatic(op, choices.chooseStatic(a, b), within);
                    break;
                case OP_PUT:
                    put(a, b);
                    break;
                case OP_OUT:
                    callBagged(op, a, within);
                    break;
                default:
                    callAny(op, members.handlesOf(b), within);
                    break;
            }
        }

        /** A FAULT and NONE are less than 0: nothing is run then. */
        private void enterBy(int op, int member, int within) {
            if (member < 0) return;
            tried[op] = Bits.with(tried[op], member);
            enter(member, within);
        }

        private void callPooled(int op, int within) {
            int type = ops.a(op);
            int fitting = 0;
            for (int place = 0; place < poolCount; place++) {
                if (types.isUnder(pool[place], type)) fitting++;
            }
            if (fitting == 0) return;
            int c = pooledUnder(type, draw(fitting));
            if (c != NONE) enterBy(op, choices.choose(c, type, ops.b(op)), within);
        }

        /** The class of the i-th object of the POOL that is UNDER a type. */
        private int pooledUnder(int type, int i) {
            int before = 0;
            for (int place = 0; place < poolCount; place++) {
                if (!types.isUnder(pool[place], type)) continue;
                if (before == i) return pool[place];
                before++;
            }
            return NONE;
        }

        private void callStatic(int op, int member, int within) {
            if (member < 0) return;
            begin(members.typeOf(member), op, within);
            enterBy(op, member, within);
        }

        private void put(int bag, int member) {
            int first = bag * MAX_MEMBERS;
            for (int i = 0; i < bagCounts[bag]; i++) {
                if (bagged[first + i] == member) return;
            }
            // A BAG has a place for each member, and none is there twice.
            bagged[first + bagCounts[bag]] = member;
            bagCounts[bag]++;
        }

        private void callBagged(int op, int bag, int within) {
            if (bagCounts[bag] == 0) return;
            enterBy(op, bagged[bag * MAX_MEMBERS + draw(bagCounts[bag])], within);
        }

        private void callAny(int op, long set, int within) {
            if (set != 0L) enterBy(op, Bits.nth(set, draw(Long.bitCount(set))), within);
        }

        /** Goes down into itself once for each type at most, since none is begun twice. */
        private void begin(int type, int op, int within) {
            if (type == NONE || Bits.has(begun, type)) return;
            begun = Bits.with(begun, type);
            begin(types.superOf(type), op, within);
            long faces = members.facesBegunWith(type);
            for (int face = 0; face < type; face++) {
                if (Bits.has(faces, face)) begin(face, op, within);
            }
            enterBy(op, members.startOf(type), within);
        }
    }
}
