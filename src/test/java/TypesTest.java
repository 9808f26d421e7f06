/** Promises 1 (a new object), 2 (type), 3 (face) and 8 (under). */
public final class TypesTest {
    private static final Check check = new Check("TypesTest");

    public static void main(String[] args) {
        newObject();
        types();
        typeRefusals();
        roomForTypes();
        faces();
        faceRefusals();
        under();
        check.end();
    }

    private static void newObject() {
        CallGraphs g = new CallGraphs();
        for (int what = 0; what <= 9; what++) check.due("new: count(" + what + ")", g.count(what), 0);
        for (int what = 0; what <= 4; what++) check.due("new: run(7, " + what + ")", g.run(7, what), 0);
        check.due("new: run(7, 5)", g.run(7, 5), CallGraphs.NONE);
        check.due("new: holds(7)", g.holds(7), true);
        check.due("new: under(0, 0)", g.under(0, 0), CallGraphs.UNKNOWN);
        check.due("new: found(0, 0)", g.found(0, 0), CallGraphs.UNKNOWN);
        check.due("new: way(0, 0)", g.way(0, 0), CallGraphs.UNKNOWN);
        check.due("new: root(0, true)", g.root(0, true), CallGraphs.UNKNOWN);
        CallGraphs other = new CallGraphs();
        other.type(0, -1);
        check.due("another object's types are its own", g.count(0), 0);
    }

    private static void types() {
        CallGraphs g = new CallGraphs();
        check.due("CLASS", g.type(0, CallGraphs.NONE), 0);
        check.due("ABSTRACT CLASS", g.type(1, CallGraphs.NONE), 1);
        check.due("FACE", g.type(2, CallGraphs.NONE), 2);
        check.due("CLASS of a CLASS", g.type(0, 0), 3);
        check.due("CLASS of an ABSTRACT CLASS", g.type(0, 1), 4);
        check.due("ABSTRACT CLASS of a CLASS", g.type(1, 4), 5);
        check.due("count(0)", g.count(0), 6);
        check.due("under its SUPER", g.under(5, 1), 1);
    }

    private static void typeRefusals() {
        CallGraphs g = new CallGraphs();
        check.due("no such SUPER yet", g.type(0, 0), CallGraphs.UNKNOWN);
        g.type(0, -1);
        g.type(2, -1);
        check.due("its own number", g.type(0, 2), CallGraphs.UNKNOWN);
        check.due("less than NONE", g.type(0, -2), CallGraphs.UNKNOWN);
        check.due("least int", g.type(0, Integer.MIN_VALUE), CallGraphs.UNKNOWN);
        check.due("UNKNOWN before OUTSIDE", g.type(3, 2), CallGraphs.UNKNOWN);
        check.due("UNKNOWN of a FACE", g.type(2, 9), CallGraphs.UNKNOWN);
        check.due("kind 3", g.type(3, -1), CallGraphs.OUTSIDE);
        check.due("kind -1", g.type(-1, 0), CallGraphs.OUTSIDE);
        check.due("a FACE with a SUPER", g.type(2, 0), CallGraphs.OUTSIDE);
        check.due("a SUPER that is a face", g.type(0, 1), CallGraphs.OUTSIDE);
        check.due("ABSTRACT CLASS, a SUPER that is a face", g.type(1, 1), CallGraphs.OUTSIDE);
        check.due("nothing came", g.count(0), 2);
    }

    private static void roomForTypes() {
        CallGraphs g = new CallGraphs();
        for (int i = 0; i < 16; i++) check.due("type " + i, g.type(i == 0 ? 2 : i % 2, -1), i);
        check.due("a 17th", g.type(0, -1), CallGraphs.ROOM);
        check.due("a 17th with a SUPER", g.type(1, 15), CallGraphs.ROOM);
        check.due("OUTSIDE before ROOM", g.type(4, -1), CallGraphs.OUTSIDE);
        check.due("SUPER a face before ROOM", g.type(0, 0), CallGraphs.OUTSIDE);
        check.due("UNKNOWN before ROOM", g.type(0, 16), CallGraphs.UNKNOWN);
        check.due("count(0)", g.count(0), 16);
        check.due("under(15, 15)", g.under(15, 15), 1);
        check.due("the last one's members", g.member(15, 9, 0), 0);
        check.due("the last one's NAME", g.found(15, 9), 0);
    }

    private static void faces() {
        CallGraphs g = new CallGraphs();
        for (int i = 0; i < 4; i++) g.type(2, -1);
        g.type(0, -1);
        check.due("first", g.face(4, 3), 1);
        check.due("second", g.face(4, 0), 2);
        check.due("third", g.face(4, 2), 3);
        check.due("a fourth", g.face(4, 1), CallGraphs.ROOM);
        check.due("of a face", g.face(1, 0), 1);
        check.due("not under the one without room", g.under(4, 1), 0);
        check.due("under the third", g.under(4, 2), 1);
    }

    private static void faceRefusals() {
        CallGraphs g = new CallGraphs();
        check.due("no types", g.face(0, 0), CallGraphs.UNKNOWN);
        for (int i = 0; i < 4; i++) g.type(2, -1);
        g.type(0, -1);
        g.type(0, -1);
        check.due("type 6", g.face(6, 0), CallGraphs.UNKNOWN);
        check.due("type -1", g.face(-1, 0), CallGraphs.UNKNOWN);
        check.due("face 6", g.face(5, 6), CallGraphs.UNKNOWN);
        check.due("face -1", g.face(5, -1), CallGraphs.UNKNOWN);
        check.due("a class", g.face(5, 4), CallGraphs.OUTSIDE);
        check.due("itself", g.face(2, 2), CallGraphs.OUTSIDE);
        check.due("of a greater number", g.face(2, 3), CallGraphs.OUTSIDE);
        g.face(5, 0);
        check.due("again", g.face(5, 0), CallGraphs.STATE);
        g.face(5, 1);
        g.face(5, 2);
        check.due("STATE before ROOM", g.face(5, 1), CallGraphs.STATE);
        check.due("OUTSIDE before ROOM", g.face(5, 4), CallGraphs.OUTSIDE);
        check.due("ROOM", g.face(5, 3), CallGraphs.ROOM);
        check.due("UNKNOWN before ROOM", g.face(5, 17), CallGraphs.UNKNOWN);
        check.due("not under the refused", g.under(5, 3), 0);
    }

    private static void under() {
        CallGraphs g = new CallGraphs();
        g.type(2, -1);
        g.type(2, -1);
        g.type(1, -1);
        g.type(0, 2);
        g.face(2, 1);
        check.due("itself", g.under(0, 0), 1);
        check.due("SUPER", g.under(3, 2), 1);
        check.due("not the other way", g.under(2, 3), 0);
        check.due("face of the SUPER", g.under(3, 1), 1);
        check.due("not yet", g.under(3, 0), 0);
        g.face(1, 0);
        check.due("a face that comes late, of a face of the SUPER", g.under(3, 0), 1);
        check.due("of the SUPER", g.under(2, 0), 1);
        check.due("not of a face without it", g.under(0, 1), 0);
        check.due("type 4", g.under(4, 0), CallGraphs.UNKNOWN);
        check.due("other 4", g.under(0, 4), CallGraphs.UNKNOWN);
        check.due("type -1", g.under(-1, 0), CallGraphs.UNKNOWN);
        check.due("other -1", g.under(0, -1), CallGraphs.UNKNOWN);
    }
}
