/** Promises 5 (op) and 6 (root). */
public final class OpsTest {
    private static final int NEW = 0, CALL = 1, UP = 2, STATIC = 3, THREAD = 4, PUT = 5, OUT = 6, ANY = 7;
    private static final Check check = new Check("OpsTest");

    public static void main(String[] args) {
        ops();
        unknownParts();
        outsideParts();
        bareMembers();
        roomOfAMember();
        roomInAll();
        roots();
        rootRefusals();
        check.end();
    }

    /**
     * Types: 0 and 1 faces, 2 an abstract class with face 1 (and so 0), 3 a class under 2 with face 1.
     * Members: 0 BARE of 0, 1 PLAIN of 3, 2 STATIC of 3, 3 PRIVATE of 3, 4 START of 3, 5 PLAIN of 1.
     */
    private static CallGraphs some() {
        CallGraphs g = new CallGraphs();
        g.type(2, -1);
        g.type(2, -1);
        g.type(1, -1);
        g.type(0, 2);
        g.face(1, 0);
        g.face(2, 1);
        g.face(3, 1);
        g.member(0, 0, 1);
        g.member(3, 0, 0);
        g.member(3, 1, 2);
        g.member(3, 2, 3);
        g.member(3, 0, 4);
        g.member(1, 3, 0);
        return g;
    }

    private static void ops() {
        CallGraphs g = some();
        check.due("NEW, b is not looked at", g.op(1, NEW, 3, -77), 0);
        check.due("CALL", g.op(1, CALL, 0, 9), 1);
        check.due("UP to the SUPER", g.op(1, UP, 2, 0), 2);
        check.due("UP to a FACE", g.op(1, UP, 1, 0), 3);
        check.due("STATIC", g.op(1, STATIC, 3, 1), 4);
        check.due("THREAD, b is not looked at", g.op(1, THREAD, 2, 99), 5);
        check.due("PUT of a PLAIN", g.op(1, PUT, 0, 1), 6);
        check.due("PUT of a STATIC", g.op(1, PUT, 3, 2), 7);
        check.due("PUT of a PRIVATE", g.op(1, PUT, 1, 3), 8);
        check.due("OUT, b is not looked at", g.op(1, OUT, 3, -1), 9);
        check.due("ANY, a is not looked at", g.op(1, ANY, 99, 0), 10);
        check.due("of a STATIC", g.op(2, OUT, 0, 0), 0);
        check.due("of a PRIVATE", g.op(3, OUT, 0, 0), 0);
        check.due("of a START", g.op(4, OUT, 0, 0), 0);
        check.due("of a PLAIN of a FACE, UP", g.op(5, UP, 0, 0), 0);
        check.due("count(2)", g.count(2), 15);
    }

    private static void unknownParts() {
        CallGraphs g = some();
        check.due("member 6", g.op(6, NEW, 3, 0), CallGraphs.UNKNOWN);
        check.due("member -1", g.op(-1, NEW, 3, 0), CallGraphs.UNKNOWN);
        check.due("member before kind", g.op(6, 8, 0, 0), CallGraphs.UNKNOWN);
        for (int kind = NEW; kind <= THREAD; kind++) {
            check.due("type 4 of kind " + kind, g.op(1, kind, 4, 10), CallGraphs.UNKNOWN);
            check.due("type -1 of kind " + kind, g.op(1, kind, -1, 0), CallGraphs.UNKNOWN);
            check.due("type 4 of a BARE member, kind " + kind, g.op(0, kind, 4, 0), CallGraphs.UNKNOWN);
        }
        check.due("PUT of member 6", g.op(1, PUT, 0, 6), CallGraphs.UNKNOWN);
        check.due("PUT of member -1, BAG 4", g.op(1, PUT, 4, -1), CallGraphs.UNKNOWN);
        check.due("count(2)", g.count(2), 0);
    }

    private static void outsideParts() {
        CallGraphs g = some();
        check.due("kind 8", g.op(1, 8, 0, 0), CallGraphs.OUTSIDE);
        check.due("kind -1", g.op(1, -1, 99, 99), CallGraphs.OUTSIDE);
        check.due("NEW of a FACE", g.op(1, NEW, 0, 0), CallGraphs.OUTSIDE);
        check.due("NEW of an ABSTRACT CLASS", g.op(1, NEW, 2, 0), CallGraphs.OUTSIDE);
        check.due("CALL of NAME 10", g.op(1, CALL, 0, 10), CallGraphs.OUTSIDE);
        check.due("CALL of NAME -1", g.op(1, CALL, 0, -1), CallGraphs.OUTSIDE);
        check.due("UP of NAME 10", g.op(1, UP, 2, 10), CallGraphs.OUTSIDE);
        check.due("UP to its own type", g.op(1, UP, 3, 0), CallGraphs.OUTSIDE);
        check.due("UP to a face that is ABOVE, but not its own", g.op(1, UP, 0, 0), CallGraphs.OUTSIDE);
        check.due("STATIC of NAME -1", g.op(1, STATIC, 0, -1), CallGraphs.OUTSIDE);
        check.due("PUT into BAG 4", g.op(1, PUT, 4, 1), CallGraphs.OUTSIDE);
        check.due("PUT into BAG -1", g.op(1, PUT, -1, 1), CallGraphs.OUTSIDE);
        check.due("PUT of a BARE", g.op(1, PUT, 0, 0), CallGraphs.OUTSIDE);
        check.due("PUT of a START", g.op(1, PUT, 0, 4), CallGraphs.OUTSIDE);
        check.due("OUT of BAG 4", g.op(1, OUT, 4, 0), CallGraphs.OUTSIDE);
        check.due("OUT of BAG -1", g.op(1, OUT, -1, 0), CallGraphs.OUTSIDE);
        check.due("ANY of NAME 10", g.op(1, ANY, 0, 10), CallGraphs.OUTSIDE);
        check.due("ANY of NAME -1", g.op(1, ANY, 0, -1), CallGraphs.OUTSIDE);
        check.due("count(2)", g.count(2), 0);
    }

    private static void bareMembers() {
        CallGraphs g = some();
        check.due("STATE", g.op(0, NEW, 3, 0), CallGraphs.STATE);
        check.due("OUTSIDE before STATE", g.op(0, NEW, 0, 0), CallGraphs.OUTSIDE);
        check.due("kind before STATE", g.op(0, 8, 0, 0), CallGraphs.OUTSIDE);
        check.due("count(2)", g.count(2), 0);
    }

    private static void roomOfAMember() {
        CallGraphs g = some();
        for (int i = 0; i < 24; i++) check.due("OP " + i, g.op(1, OUT, 0, 0), i);
        check.due("a 25th", g.op(1, OUT, 0, 0), CallGraphs.ROOM);
        check.due("OUTSIDE before ROOM", g.op(1, OUT, 4, 0), CallGraphs.OUTSIDE);
        check.due("UNKNOWN before ROOM", g.op(1, NEW, 4, 0), CallGraphs.UNKNOWN);
        check.due("of another one", g.op(2, OUT, 0, 0), 0);
        check.due("count(2)", g.count(2), 25);
        check.due("no 25th", g.callee(1, 24, 0), CallGraphs.UNKNOWN);
    }

    private static void roomInAll() {
        CallGraphs g = new CallGraphs();
        g.type(2, -1);
        for (int m = 0; m < 8; m++) g.member(0, m, 0);
        g.member(0, 8, 1);
        for (int i = 0; i < 160; i++) check.due("OP " + i, g.op(i % 8, OUT, 0, 0), i / 8);
        check.due("a 161st", g.op(0, OUT, 0, 0), CallGraphs.ROOM);
        check.due("STATE before ROOM", g.op(8, OUT, 0, 0), CallGraphs.STATE);
        check.due("count(2)", g.count(2), 160);
        check.due("no OP 20", g.callee(0, 20, 0), CallGraphs.UNKNOWN);
    }

    private static void roots() {
        CallGraphs g = some();
        check.due("not, as before", g.root(1, false), 0);
        check.due("new", g.root(1, true), 1);
        check.due("again", g.root(1, true), 0);
        check.due("STATIC", g.root(2, true), 1);
        check.due("PRIVATE", g.root(3, true), 1);
        check.due("of a FACE", g.root(5, true), 1);
        check.due("count(3)", g.count(3), 4);
        check.due("count(4)", g.count(4), 4);
        check.due("no more", g.root(1, false), 1);
        check.due("no more again", g.root(1, false), 0);
        check.due("count(3) then", g.count(3), 3);
        check.due("count(4) then", g.count(4), 3);
    }

    private static void rootRefusals() {
        CallGraphs g = some();
        check.due("member 6", g.root(6, true), CallGraphs.UNKNOWN);
        check.due("member -1", g.root(-1, false), CallGraphs.UNKNOWN);
        check.due("BARE", g.root(0, true), CallGraphs.OUTSIDE);
        check.due("BARE, not", g.root(0, false), CallGraphs.OUTSIDE);
        check.due("START", g.root(4, true), CallGraphs.OUTSIDE);
        check.due("START, not", g.root(4, false), CallGraphs.OUTSIDE);
        check.due("count(3)", g.count(3), 0);
    }
}
