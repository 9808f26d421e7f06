import java.util.ArrayList;
import java.util.Arrays;
import java.util.List;
import java.util.Random;

/** The last lines of the section 'Terms': the order of the REFUSALS, and that what is refused changes nothing. */
public final class RefusalsTest implements Words {
    private static final int QUESTIONS = 200, ROUNDS = 4;
    private static final Check check = new Check("RefusalsTest");

    /** A call, or a run of calls. */
    private interface Calls {
        int on(CallGraphs g);
    }

    private record Refused(String call, int due, Calls calls) {
    }

    public static void main(String[] args) {
        orderOfType();
        orderOfFace();
        orderOfMember();
        orderOfOp();
        orderOfQuestions();
        refusedChangesNothing();
        refusedForRoomChangesNothing();
        check.end();
    }

    /**
     * Types: 0 .. 3 faces, 4 a class with faces 0, 1, 2, 5 an abstract class with face 3.
     * Members: 0 PLAIN of 0, 1 BARE of 3, 2 STATIC of 4, a root, 3 START of 4, 4 PRIVATE of 5, 5 PLAIN of 4 with 24 OPS.
     */
    private static int tellSome(CallGraphs g) {
        for (int t = 0; t < 4; t++) g.type(FACE, NONE);
        g.type(CLASS, NONE);
        g.type(ABSTRACT, NONE);
        for (int f = 0; f < 3; f++) g.face(4, f);
        g.face(5, 3);
        g.member(0, 0, PLAIN);
        g.member(3, 0, BARE);
        g.member(4, 1, SHARED);
        g.member(4, 0, START);
        g.member(5, 2, PRIVATE);
        g.member(4, 9, PLAIN);
        g.op(2, NEW, 4, 0);
        g.op(2, CALL, 0, 0);
        g.op(2, THREAD, 4, 0);
        g.op(2, ANY, 0, 2);
        for (int i = 0; i < 24; i++) g.op(5, i % 2 == 0 ? OUT : PUT, i % 4, i % 2 == 0 ? 0 : 4);
        return g.root(2, true);
    }

    private static int tellSixteenTypes(CallGraphs g) {
        for (int t = 0; t < 16; t++) g.type(t < 4 ? FACE : t % 2, t < 5 ? NONE : t - 1);
        g.face(9, 3);
        g.member(3, 0, PLAIN);
        g.member(15, 1, SHARED);
        g.member(15, 2, START);
        g.op(1, NEW, 14, 0);
        g.op(1, CALL, 3, 0);
        g.op(1, STATIC, 15, 1);
        return g.root(1, true);
    }

    private static int tell48Members(CallGraphs g) {
        for (int t = 0; t < 6; t++) g.type(t % 3, NONE);
        for (int m = 0; m < 48; m++) g.member(m / 10, m % 10, m % 2 == 0 ? PLAIN : SHARED);
        for (int m = 1; m < 48; m += 2) g.op(m, STATIC, (m - 1) / 10, m / 2 % 10);
        g.op(47, ANY, 0, 3);
        return g.root(47, true);
    }

    private static int tell160Ops(CallGraphs g) {
        g.type(CLASS, NONE);
        g.type(ABSTRACT, 0);
        for (int m = 0; m < 8; m++) g.member(0, m, SHARED);
        g.member(1, 0, BARE);
        for (int i = 0; i < 160; i++) g.op(i % 8, i % 3 == 0 ? STATIC : OUT, 0, i % 7);
        return g.root(0, true);
    }

    private static CallGraphs object(Calls calls) {
        CallGraphs g = new CallGraphs();
        calls.on(g);
        return g;
    }

    private static void orderOfType() {
        check.sentence(2, "of several REFUSALS the first one");
        CallGraphs g = object(RefusalsTest::tellSome);
        check.due("UNKNOWN above, OUTSIDE kind", g.type(3, 6), UNKNOWN);
        check.due("UNKNOWN above, a FACE with a SUPER", g.type(FACE, 6), UNKNOWN);
        CallGraphs full = object(RefusalsTest::tellSixteenTypes);
        check.due("UNKNOWN above, no ROOM", full.type(CLASS, 16), UNKNOWN);
        check.due("UNKNOWN above, OUTSIDE kind, no ROOM", full.type(-1, -2), UNKNOWN);
        check.due("OUTSIDE kind, no ROOM", full.type(3, NONE), OUTSIDE);
        check.due("a FACE with a SUPER, no ROOM", full.type(FACE, 4), OUTSIDE);
        check.due("a SUPER that is a face, no ROOM", full.type(CLASS, 0), OUTSIDE);
        check.due("no ROOM alone", full.type(CLASS, 4), ROOM);
    }

    private static void orderOfFace() {
        check.sentence(3, "of several REFUSALS the first one");
        CallGraphs g = object(RefusalsTest::tellSome);
        check.due("UNKNOWN type, a class", g.face(6, 4), UNKNOWN);
        check.due("UNKNOWN type, of a greater number", g.face(-1, 0), UNKNOWN);
        check.due("UNKNOWN face, no ROOM", g.face(4, 6), UNKNOWN);
        check.due("no FACE, no ROOM", g.face(4, 5), OUTSIDE);
        check.due("itself, no ROOM", g.face(4, 4), OUTSIDE);
        for (int f = 0; f < 3; f++) check.due("one of them, no ROOM: " + f, g.face(4, f), STATE);
        check.due("no ROOM alone", g.face(4, 3), ROOM);
    }

    private static void orderOfMember() {
        check.sentence(4, "of several REFUSALS the first one");
        CallGraphs g = object(RefusalsTest::tellSome);
        check.due("UNKNOWN type, OUTSIDE sort", g.member(6, 0, 5), UNKNOWN);
        check.due("UNKNOWN type, OUTSIDE name", g.member(-1, 10, PLAIN), UNKNOWN);
        check.due("OUTSIDE sort, the NAME is there", g.member(4, 1, 5), OUTSIDE);
        check.due("BARE of a CLASS, the NAME is there", g.member(4, 1, BARE), OUTSIDE);
        CallGraphs full = object(RefusalsTest::tell48Members);
        check.due("UNKNOWN type, no ROOM", full.member(6, 0, PLAIN), UNKNOWN);
        check.due("OUTSIDE sort, no ROOM", full.member(5, 0, -1), OUTSIDE);
        check.due("OUTSIDE name, no ROOM", full.member(5, 10, PLAIN), OUTSIDE);
        check.due("BARE of a CLASS, no ROOM", full.member(3, 0, BARE), OUTSIDE);
        check.due("the NAME is there, no ROOM", full.member(0, 0, PLAIN), STATE);
        check.due("no ROOM alone", full.member(5, 0, PLAIN), ROOM);
        CallGraphs started = object(RefusalsTest::tellSome);
        for (int i = 0; i < 60; i++) started.member(i / 10, i % 10, PLAIN);
        check.due("count(1)", started.count(1), 48);
        check.due("the START is there, no ROOM", started.member(4, 0, START), STATE);
        check.due("a START, no ROOM alone", started.member(0, 0, START), ROOM);
    }

    private static void orderOfOp() {
        check.sentence(5, "of several REFUSALS the first one");
        CallGraphs g = object(RefusalsTest::tellSome);
        check.due("UNKNOWN member, OUTSIDE kind", g.op(6, 8, 0, 0), UNKNOWN);
        check.due("UNKNOWN member, no CLASS of NEW", g.op(6, NEW, 0, 0), UNKNOWN);
        check.due("UNKNOWN member, OUTSIDE BAG", g.op(-1, OUT, 4, 0), UNKNOWN);
        check.due("UNKNOWN member, OUTSIDE NAME", g.op(-1, ANY, 0, 10), UNKNOWN);
        check.due("UNKNOWN type, OUTSIDE NAME of CALL", g.op(2, CALL, 6, 10), UNKNOWN);
        check.due("UNKNOWN type, OUTSIDE NAME of UP", g.op(2, UP, 6, 10), UNKNOWN);
        check.due("UNKNOWN type, OUTSIDE NAME of STATIC", g.op(2, STATIC, -1, -1), UNKNOWN);
        check.due("UNKNOWN handle, OUTSIDE BAG", g.op(2, PUT, 4, 6), UNKNOWN);
        check.due("OUTSIDE BAG, handle of another sort", g.op(2, PUT, 4, 1), OUTSIDE);
        for (int kind = NEW; kind <= THREAD; kind++) check.due("UNKNOWN type, BARE, kind " + kind, g.op(1, kind, 6, 0), UNKNOWN);
        check.due("UNKNOWN handle, BARE", g.op(1, PUT, 0, 6), UNKNOWN);
        check.due("OUTSIDE kind, BARE", g.op(1, 8, 0, 0), OUTSIDE);
        check.due("no CLASS of NEW, BARE", g.op(1, NEW, 0, 0), OUTSIDE);
        check.due("not as of UP, BARE", g.op(1, UP, 3, 0), OUTSIDE);
        check.due("OUTSIDE NAME, BARE", g.op(1, CALL, 0, 10), OUTSIDE);
        check.due("OUTSIDE BAG, BARE", g.op(1, OUT, 4, 0), OUTSIDE);
        check.due("handle of another sort, BARE", g.op(1, PUT, 0, 3), OUTSIDE);
        check.due("UNKNOWN type, no ROOM in the member", g.op(5, NEW, 6, 0), UNKNOWN);
        check.due("OUTSIDE kind, no ROOM in the member", g.op(5, 8, 0, 0), OUTSIDE);
        check.due("no ROOM in the member alone", g.op(5, NEW, 4, 0), ROOM);
        CallGraphs full = object(RefusalsTest::tell160Ops);
        check.due("UNKNOWN member, no ROOM", full.op(9, OUT, 0, 0), UNKNOWN);
        check.due("UNKNOWN handle, no ROOM", full.op(0, PUT, 0, 9), UNKNOWN);
        check.due("OUTSIDE NAME, no ROOM", full.op(0, ANY, 0, 10), OUTSIDE);
        check.due("BARE, no ROOM", full.op(8, OUT, 0, 0), STATE);
        check.due("OUTSIDE BAG, BARE, no ROOM", full.op(8, OUT, 4, 0), OUTSIDE);
        check.due("no ROOM alone", full.op(0, OUT, 0, 0), ROOM);
    }

    private static void orderOfQuestions() {
        CallGraphs g = object(RefusalsTest::tellSome);
        check.sentence(9, "of several REFUSALS the first one");
        check.due("UNKNOWN type, OUTSIDE name", g.found(6, 10), UNKNOWN);
        check.sentence(10, "of several REFUSALS the first one");
        check.due("UNKNOWN c, OUTSIDE name", g.chosen(6, 0, 10), UNKNOWN);
        check.due("UNKNOWN type, OUTSIDE name", g.chosen(0, -1, -1), UNKNOWN);
        check.due("OUTSIDE name, not UNDER", g.chosen(0, 4, 10), OUTSIDE);
        check.sentence(11, "of several REFUSALS the first one");
        check.due("UNKNOWN member, OUTSIDE what", g.about(6, 5), UNKNOWN);
        check.due("UNKNOWN member, OUTSIDE what, both too small", g.about(-1, -1), UNKNOWN);
        check.sentence(12, "of several REFUSALS the first one");
        check.due("UNKNOWN type, OUTSIDE what", g.made(6, 2), UNKNOWN);
        check.due("UNKNOWN type, OUTSIDE what, both too small", g.made(-1, -1), UNKNOWN);
        check.sentence(14, "of several REFUSALS the first one");
        check.due("UNKNOWN member, OUTSIDE kind", g.faults(6, 0, -1), UNKNOWN);
        check.due("UNKNOWN op, OUTSIDE kind", g.faults(2, 4, -6), UNKNOWN);
        check.due("UNKNOWN op of one not REACHED", g.faults(4, 0, -2), UNKNOWN);
    }

    private static List<Refused> someRefused() {
        List<Refused> all = new ArrayList<>();
        all.add(new Refused("type(CLASS, 6)", UNKNOWN, g -> g.type(CLASS, 6)));
        all.add(new Refused("type(3, NONE)", OUTSIDE, g -> g.type(3, NONE)));
        all.add(new Refused("type(FACE, 4)", OUTSIDE, g -> g.type(FACE, 4)));
        all.add(new Refused("type(CLASS, 3)", OUTSIDE, g -> g.type(CLASS, 3)));
        all.add(new Refused("face(6, 3)", UNKNOWN, g -> g.face(6, 3)));
        all.add(new Refused("face(5, 6)", UNKNOWN, g -> g.face(5, 6)));
        all.add(new Refused("face(5, 4)", OUTSIDE, g -> g.face(5, 4)));
        all.add(new Refused("face(0, 3)", OUTSIDE, g -> g.face(0, 3)));
        all.add(new Refused("face(3, 3)", OUTSIDE, g -> g.face(3, 3)));
        all.add(new Refused("face(5, 3)", STATE, g -> g.face(5, 3)));
        all.add(new Refused("face(4, 3)", ROOM, g -> g.face(4, 3)));
        all.add(new Refused("member(6, 0, PLAIN)", UNKNOWN, g -> g.member(6, 0, PLAIN)));
        all.add(new Refused("member(4, 0, 5)", OUTSIDE, g -> g.member(4, 0, 5)));
        all.add(new Refused("member(4, 10, PLAIN)", OUTSIDE, g -> g.member(4, 10, PLAIN)));
        all.add(new Refused("member(4, 0, BARE)", OUTSIDE, g -> g.member(4, 0, BARE)));
        all.add(new Refused("member(4, 9, SHARED)", STATE, g -> g.member(4, 9, SHARED)));
        all.add(new Refused("member(3, 0, PLAIN)", STATE, g -> g.member(3, 0, PLAIN)));
        all.add(new Refused("member(4, 0, START)", STATE, g -> g.member(4, 0, START)));
        all.add(new Refused("op(6, OUT, 0, 0)", UNKNOWN, g -> g.op(6, OUT, 0, 0)));
        all.add(new Refused("op(2, CALL, 6, 0)", UNKNOWN, g -> g.op(2, CALL, 6, 0)));
        all.add(new Refused("op(2, PUT, 0, 6)", UNKNOWN, g -> g.op(2, PUT, 0, 6)));
        all.add(new Refused("op(2, 8, 0, 0)", OUTSIDE, g -> g.op(2, 8, 0, 0)));
        all.add(new Refused("op(2, NEW, 5, 0)", OUTSIDE, g -> g.op(2, NEW, 5, 0)));
        all.add(new Refused("op(2, UP, 4, 9)", OUTSIDE, g -> g.op(2, UP, 4, 9)));
        all.add(new Refused("op(2, CALL, 4, 10)", OUTSIDE, g -> g.op(2, CALL, 4, 10)));
        all.add(new Refused("op(2, OUT, 4, 0)", OUTSIDE, g -> g.op(2, OUT, 4, 0)));
        all.add(new Refused("op(2, PUT, 0, 1)", OUTSIDE, g -> g.op(2, PUT, 0, 1)));
        all.add(new Refused("op(1, NEW, 4, 0)", STATE, g -> g.op(1, NEW, 4, 0)));
        all.add(new Refused("op(5, NEW, 4, 0)", ROOM, g -> g.op(5, NEW, 4, 0)));
        all.add(new Refused("root(6, true)", UNKNOWN, g -> g.root(6, true)));
        all.add(new Refused("root(1, true)", OUTSIDE, g -> g.root(1, true)));
        all.add(new Refused("root(3, true)", OUTSIDE, g -> g.root(3, true)));
        all.addAll(refusedQuestions());
        return all;
    }

    private static List<Refused> refusedQuestions() {
        List<Refused> all = new ArrayList<>();
        all.add(new Refused("count(10)", OUTSIDE, g -> g.count(10)));
        all.add(new Refused("under(0, 6)", UNKNOWN, g -> g.under(0, 6)));
        all.add(new Refused("found(6, 0)", UNKNOWN, g -> g.found(6, 0)));
        all.add(new Refused("found(4, 10)", OUTSIDE, g -> g.found(4, 10)));
        all.add(new Refused("chosen(4, 6, 0)", UNKNOWN, g -> g.chosen(4, 6, 0)));
        all.add(new Refused("chosen(0, 4, 0)", OUTSIDE, g -> g.chosen(0, 4, 0)));
        all.add(new Refused("about(6, 0)", UNKNOWN, g -> g.about(6, 0)));
        all.add(new Refused("about(2, 5)", OUTSIDE, g -> g.about(2, 5)));
        all.add(new Refused("made(6, 0)", UNKNOWN, g -> g.made(6, 0)));
        all.add(new Refused("made(4, 2)", OUTSIDE, g -> g.made(4, 2)));
        all.add(new Refused("callee(6, 0, 0)", UNKNOWN, g -> g.callee(6, 0, 0)));
        all.add(new Refused("callee(2, 4, 0)", UNKNOWN, g -> g.callee(2, 4, 0)));
        all.add(new Refused("faults(2, 4, -2)", UNKNOWN, g -> g.faults(2, 4, -2)));
        all.add(new Refused("faults(2, 0, -1)", OUTSIDE, g -> g.faults(2, 0, -1)));
        all.add(new Refused("caller(6, 0)", UNKNOWN, g -> g.caller(6, 0)));
        all.add(new Refused("way(6, 0)", UNKNOWN, g -> g.way(6, 0)));
        all.add(new Refused("run(1, 6)", OUTSIDE, g -> g.run(1, 6)));
        return all;
    }

    private static void refusedChangesNothing() {
        check.sentence(0, "What is refused changes nothing.");
        Calls more = g -> {
            g.type(CLASS, 4);
            g.face(6, 3);
            g.member(6, 9, PLAIN);
            g.op(6, UP, 4, 9);
            g.op(2, NEW, 6, 0);
            return g.root(6, true);
        };
        for (Refused refused : someRefused()) {
            for (int round = 0; round < ROUNDS; round++) dueAsWithout(RefusalsTest::tellSome, refused, more, round);
        }
    }

    private static void refusedForRoomChangesNothing() {
        check.sentence(0, "What is refused changes nothing (ROOM).");
        Calls more = g -> g.root(0, true) + g.op(0, OUT, 0, 0) + g.member(0, 9, SHARED) + g.type(CLASS, NONE);
        for (int round = 0; round < ROUNDS; round++) {
            dueAsWithout(RefusalsTest::tellSixteenTypes, new Refused("type(CLASS, 4)", ROOM, g -> g.type(CLASS, 4)), more, round);
            dueAsWithout(RefusalsTest::tellSixteenTypes, new Refused("type(FACE, NONE)", ROOM, g -> g.type(FACE, NONE)), more, round);
            dueAsWithout(RefusalsTest::tell48Members, new Refused("member(5, 0, PLAIN)", ROOM, g -> g.member(5, 0, PLAIN)), more, round);
            dueAsWithout(RefusalsTest::tell48Members, new Refused("member(0, 0, START)", ROOM, g -> g.member(0, 0, START)), more, round);
            dueAsWithout(RefusalsTest::tell160Ops, new Refused("op(7, NEW, 0, 0)", ROOM, g -> g.op(7, NEW, 0, 0)), more, round);
            dueAsWithout(RefusalsTest::tell160Ops, new Refused("op(8, OUT, 0, 0)", STATE, g -> g.op(8, OUT, 0, 0)), more, round);
        }
    }

    /** An object that has refused a call answers all that follows as one that was never asked. */
    private static void dueAsWithout(Calls told, Refused refused, Calls more, int round) {
        CallGraphs with = object(told);
        CallGraphs without = object(told);
        check.due(refused.call(), refused.calls().on(with), refused.due());
        for (int i = 0; i < round; i++) refused.calls().on(with);
        String behind = "behind " + refused.call() + ": ";
        if (round % 2 == 1) check.due(behind + "what is told then", more.on(with), more.on(without));
        for (int what = 0; what < 10; what++) check.due(behind + "count(" + what + ")", with.count(what), without.count(what));
        Random random = new Random(round);
        int types = without.count(0);
        int members = without.count(1);
        for (int i = 0; i < QUESTIONS; i++) {
            int[] q = {random.nextInt(10), random.nextInt(types), random.nextInt(16), random.nextInt(members), random.nextInt(6)};
            check.due(behind + "question " + Arrays.toString(q), ask(with, q), ask(without, q));
        }
    }

    private static int ask(CallGraphs g, int[] q) {
        int t = q[1];
        int other = q[2];
        int m = q[3];
        int op = q[4];
        int i = op / 2;
        switch (q[0]) {
            case 0: return g.under(t, other);
            case 1: return g.found(t, other % 10);
            case 2: return g.chosen(t, other, other % 10);
            case 3: return g.about(m, other % 5);
            case 4: return g.made(t, i % 2);
            case 5: return g.callee(m, op, i);
            case 6: return g.faults(m, op, -2 - i);
            case 7: return g.caller(m, i);
            case 8: return g.way(m, i);
            default: return g.run(other, op);
        }
    }
}
