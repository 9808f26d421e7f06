/** TO BEGIN a type in a RUN, sentence by sentence: the order is seen by which START runs latest. */
public final class BeginTest implements Words {
    private static final Check check = new Check("BeginTest");
    /** Seeds whose first draws leave nothing out. */
    private static final long ALL_KEPT = seedThatKeeps(12);

    /** A program without STARTS, in which member 0 is a ROOT and begins types by its one OP. */
    private interface Program {
        CallGraphs make();
    }

    public static void main(String[] args) {
        notBegunBefore();
        itIsBegunFirst();
        superThenFacesThenStart();
        facesOfTheSuperWithTheSuper();
        facesByNumbers();
        facesThatHaveAPlainMember();
        ofAClass();
        withoutAStart();
        aRowOfSixteen();
        byStatic();
        check.end();
    }

    private static long seedThatKeeps(int ops) {
        for (long seed = 0; seed < 100_000; seed++) {
            if (new Draws(seed).kept(ops) == ops) return seed;
        }
        return 0;
    }

    private static CallGraphs types(int... kinds) {
        CallGraphs g = new CallGraphs();
        for (int kind : kinds) g.type(kind, NONE);
        return g;
    }

    /** Of each two of the types the START of the later one runs latest, though it was told first; others are not begun. */
    private static void dueOrder(String of, Program program, int types, int... order) {
        check.due(of + ": how many types are begun", program.make().run(ALL_KEPT, 3), order.length);
        boolean[] begun = new boolean[types];
        for (int t : order) begun[t] = true;
        for (int t = 0; t < types; t++) {
            CallGraphs g = program.make();
            int start = g.member(t, 0, START);
            check.due(of + ": START of " + t + " alone", g.run(ALL_KEPT, 5) == start, begun[t]);
        }
        for (int j = 1; j < order.length; j++) {
            for (int i = 0; i < j; i++) {
                CallGraphs g = program.make();
                int later = g.member(order[j], 0, START);
                g.member(order[i], 0, START);
                check.due(of + ": " + order[j] + " behind " + order[i], g.run(ALL_KEPT, 5), later);
            }
        }
    }

    private static void notBegunBefore() {
        check.sentence(0, "TO BEGIN a type that was not begun");
        for (long seed = 0; seed < 60; seed++) {
            CallGraphs g = types(CLASS);
            g.type(CLASS, 0);
            g.member(0, 0, SHARED);
            g.member(0, 0, START);
            g.member(1, 0, START);
            for (int i = 0; i < 3; i++) g.op(0, NEW, i % 2, 0);
            g.root(0, true);
            Draws draws = new Draws(seed);
            boolean[] kept = {draws.keeps(), draws.keeps(), draws.keeps()};
            int steps = 1 + (kept[0] || kept[1] || kept[2] ? 1 : 0) + (kept[1] ? 1 : 0);
            check.due("run(" + seed + ", 0)", g.run(seed, 0), steps);
            check.due("run(" + seed + ", 1)", g.run(seed, 1), steps);
            check.due("run(" + seed + ", 3)", g.run(seed, 3), steps - 1);
        }
    }

    private static void itIsBegunFirst() {
        check.sentence(0, "it is begun; then its SUPER (so a START that begins it again does not run it)");
        CallGraphs g = types(CLASS);
        g.type(CLASS, 0);
        g.member(0, 0, SHARED);
        g.op(0, NEW, 1, 0);
        g.root(0, true);
        int below = g.member(1, 0, START);
        int above = g.member(0, 0, START);
        g.op(above, NEW, 1, 0);
        g.op(below, NEW, 1, 0);
        g.op(below, NEW, 0, 0);
        check.due("STEPS", g.run(ALL_KEPT, 0), 3);
        check.due("members that ran", g.run(ALL_KEPT, 1), 3);
        check.due("objects, of each NEW one", g.run(ALL_KEPT, 2), 4);
        check.due("types begun", g.run(ALL_KEPT, 3), 2);
        check.due("that of the class itself runs latest", g.run(ALL_KEPT, 5), below);
    }

    private static void superThenFacesThenStart() {
        check.sentence(0, "then (of a class) its SUPER, then the faces ABOVE it that have a PLAIN member, are begun; then its START is run");
        dueOrder("SUPER 1, face 0, class 2", () -> {
            CallGraphs g = types(FACE, CLASS);
            g.type(CLASS, 1);
            g.face(2, 0);
            g.member(1, 9, SHARED);
            g.member(0, 0, PLAIN);
            g.op(0, NEW, 2, 0);
            g.root(0, true);
            return g;
        }, 3, 1, 0, 2);
    }

    private static void facesOfTheSuperWithTheSuper() {
        check.sentence(0, "its SUPER is begun (with all that is begun with that, before its own faces)");
        dueOrder("the SUPER's face 1, SUPER 2, face 0, class 3", () -> {
            CallGraphs g = types(FACE, FACE, CLASS);
            g.type(CLASS, 2);
            g.face(2, 1);
            g.face(3, 0);
            g.member(2, 9, SHARED);
            g.member(0, 0, PLAIN);
            g.member(1, 1, PLAIN);
            g.op(0, NEW, 3, 0);
            g.root(0, true);
            return g;
        }, 4, 1, 2, 0, 3);
    }

    private static void facesByNumbers() {
        check.sentence(0, "the faces, by numbers (not as they were told, nor as they stand ABOVE one another)");
        dueOrder("faces told 3, 1, 2; 0 is ABOVE 3", () -> {
            CallGraphs g = types(FACE, FACE, FACE, FACE, CLASS);
            g.face(3, 0);
            g.face(4, 3);
            g.face(4, 1);
            g.face(4, 2);
            g.member(4, 9, SHARED);
            for (int f = 3; f >= 0; f--) g.member(f, f, PLAIN);
            g.op(0, NEW, 4, 0);
            g.root(0, true);
            return g;
        }, 5, 0, 1, 2, 3, 4);
    }

    private static void facesThatHaveAPlainMember() {
        check.sentence(0, "the faces ABOVE it that have a PLAIN member");
        dueOrder("0 PLAIN, 1 BARE, 2 STATIC, 3 PRIVATE, 4 nothing, 5 PLAIN, ABOVE 4", () -> {
            CallGraphs g = types(FACE, FACE, FACE, FACE, FACE, FACE, FACE, CLASS);
            g.type(CLASS, 7);
            g.face(6, 5);
            for (int f = 0; f < 3; f++) g.face(7, f);
            g.face(8, 3);
            g.face(8, 4);
            g.face(8, 6);
            g.member(8, 9, SHARED);
            for (int f = 0; f < 4; f++) g.member(f, 0, f);
            g.member(5, 0, PLAIN);
            g.op(0, NEW, 8, 0);
            g.root(0, true);
            return g;
        }, 9, 0, 7, 5, 8);
    }

    private static void ofAClass() {
        check.sentence(0, "(of a class: with a face nothing else is begun)");
        CallGraphs g = types(FACE, FACE, CLASS);
        g.face(1, 0);
        g.member(2, 9, SHARED);
        g.member(1, 0, SHARED);
        g.member(0, 1, PLAIN);
        g.member(0, 0, START);
        int start = g.member(1, 0, START);
        g.op(0, STATIC, 1, 0);
        g.root(0, true);
        check.due("STEPS", g.run(ALL_KEPT, 0), 3);
        check.due("types begun", g.run(ALL_KEPT, 3), 1);
        check.due("it ran latest", g.run(ALL_KEPT, 5), 1);
        check.due("the START is REACHED", g.about(start, 0), 1);
    }

    private static void withoutAStart() {
        check.sentence(0, "then its START, if it has one, is run");
        for (int has = 0; has < 2; has++) {
            CallGraphs g = types(CLASS, CLASS);
            g.member(0, 9, SHARED);
            if (has == 1) g.member(1, 0, START);
            g.op(0, NEW, 1, 0);
            g.root(0, true);
            int[] due = {1 + has, 1 + has, 1, 1, 0, has};
            for (int what = 0; what < 6; what++) check.due(has + " STARTS: run(.., " + what + ")", g.run(ALL_KEPT, what), due[what]);
        }
    }

    /** The STARTS of a row of SUPERS run one after the other, so that none is within another. */
    private static void aRowOfSixteen() {
        check.sentence(0, "its START is run (within the member whose OP began the type, and no other)");
        CallGraphs g = new CallGraphs();
        for (int t = 0; t < 16; t++) g.type(CLASS, t - 1);
        g.member(15, 9, SHARED);
        for (int t = 15; t >= 0; t--) g.member(t, 0, START);
        g.op(0, NEW, 15, 0);
        g.root(0, true);
        int[] due = {17, 17, 1, 16, 0, 1};
        for (int what = 0; what < 6; what++) check.due("run(.., " + what + ")", g.run(ALL_KEPT, what), due[what]);
    }

    private static void byStatic() {
        check.sentence(0, "STATIC: its type is begun before (all that is begun with it too)");
        CallGraphs g = types(FACE, CLASS);
        g.type(CLASS, 1);
        g.face(1, 0);
        g.member(1, 9, SHARED);
        g.member(0, 0, PLAIN);
        for (int t = 0; t < 3; t++) g.member(t, 0, START);
        g.op(0, STATIC, 2, 9);
        g.root(0, true);
        long once = 0;
        while (new Draws(once).kept(2) != 1 || !new Draws(once).keeps()) once++;
        int[] due = {4, 3, 0, 2, 0, 0};
        for (int what = 0; what < 6; what++) check.due("run(" + once + ", " + what + ")", g.run(once, what), due[what]);
    }
}
