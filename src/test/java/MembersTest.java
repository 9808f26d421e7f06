/** Promises 4 (member), 9 (found) and 10 (chosen). */
public final class MembersTest {
    private static final int PLAIN = 0, BARE = 1, STATIC = 2, PRIVATE = 3, START = 4;
    private static final Check check = new Check("MembersTest");

    public static void main(String[] args) {
        members();
        memberRefusals();
        roomForMembers();
        foundInClasses();
        foundInFaces();
        chosenInClasses();
        chosenInFaces();
        hiddenFaces();
        questionsRefused();
        check.end();
    }

    /** 0 CLASS, 1 ABSTRACT CLASS, 2 FACE. */
    private static CallGraphs three() {
        CallGraphs g = new CallGraphs();
        g.type(0, -1);
        g.type(1, -1);
        g.type(2, -1);
        return g;
    }

    private static void members() {
        CallGraphs g = three();
        check.due("PLAIN", g.member(0, 0, PLAIN), 0);
        check.due("STATIC, NAME 9", g.member(0, 9, STATIC), 1);
        check.due("PRIVATE", g.member(0, 5, PRIVATE), 2);
        check.due("START, its NAME is not looked at", g.member(0, 99, START), 3);
        check.due("BARE of an ABSTRACT CLASS", g.member(1, 0, BARE), 4);
        check.due("BARE of a FACE", g.member(2, 0, BARE), 5);
        check.due("START of a FACE, NAME as a member's", g.member(2, 0, START), 6);
        check.due("NAME as the START was told with", g.member(1, 3, START), 7);
        check.due("that NAME is free", g.member(1, 3, PLAIN), 8);
        check.due("count(1)", g.count(1), 9);
        check.due("a START is not FOUND", g.found(2, 3), CallGraphs.NONE);
    }

    private static void memberRefusals() {
        CallGraphs g = three();
        check.due("type 3", g.member(3, 0, PLAIN), CallGraphs.UNKNOWN);
        check.due("type -1", g.member(-1, 0, PLAIN), CallGraphs.UNKNOWN);
        check.due("UNKNOWN before OUTSIDE", g.member(3, 10, 5), CallGraphs.UNKNOWN);
        check.due("sort 5", g.member(0, 0, 5), CallGraphs.OUTSIDE);
        check.due("sort -1", g.member(0, 0, -1), CallGraphs.OUTSIDE);
        check.due("NAME 10", g.member(0, 10, PLAIN), CallGraphs.OUTSIDE);
        check.due("NAME -1", g.member(0, -1, STATIC), CallGraphs.OUTSIDE);
        check.due("BARE of a CLASS", g.member(0, 0, BARE), CallGraphs.OUTSIDE);
        check.due("first", g.member(0, 0, PLAIN), 0);
        check.due("NAME again", g.member(0, 0, PLAIN), CallGraphs.STATE);
        check.due("NAME again, of another sort", g.member(0, 0, PRIVATE), CallGraphs.STATE);
        check.due("OUTSIDE before STATE", g.member(0, 0, BARE), CallGraphs.OUTSIDE);
        check.due("START", g.member(0, 0, START), 1);
        check.due("START again", g.member(0, 7, START), CallGraphs.STATE);
        check.due("nothing came", g.count(1), 2);
        check.due("found as before", g.found(0, 0), 0);
    }

    private static void roomForMembers() {
        CallGraphs g = new CallGraphs();
        for (int t = 0; t < 6; t++) g.type(2, -1);
        for (int m = 0; m < 48; m++) check.due("member " + m, g.member(m / 10, m % 10, PLAIN), m);
        check.due("a 49th", g.member(4, 8, PLAIN), CallGraphs.ROOM);
        check.due("a START too", g.member(0, 0, START), CallGraphs.ROOM);
        check.due("STATE before ROOM", g.member(0, 0, PLAIN), CallGraphs.STATE);
        check.due("OUTSIDE before ROOM", g.member(4, 10, PLAIN), CallGraphs.OUTSIDE);
        check.due("UNKNOWN before ROOM", g.member(6, 0, PLAIN), CallGraphs.UNKNOWN);
        check.due("count(1)", g.count(1), 48);
        check.due("the last one", g.found(4, 7), 47);
        check.due("the refused one", g.found(4, 8), CallGraphs.NONE);
    }

    private static void foundInClasses() {
        CallGraphs g = new CallGraphs();
        g.type(2, -1);
        g.type(0, -1);
        g.type(0, 1);
        g.type(0, 2);
        g.face(3, 0);
        check.due("nothing", g.found(3, 0), CallGraphs.NONE);
        g.member(0, 0, PLAIN);
        check.due("of the face", g.found(3, 0), 0);
        g.member(1, 0, PRIVATE);
        check.due("of a SUPER before the face, of any sort", g.found(3, 0), 1);
        g.member(2, 0, STATIC);
        check.due("of the nearer SUPER", g.found(3, 0), 2);
        check.due("from the middle", g.found(1, 0), 1);
        g.member(3, 0, PLAIN);
        check.due("its own first", g.found(3, 0), 3);
        check.due("another NAME", g.found(3, 1), CallGraphs.NONE);

        CallGraphs row = new CallGraphs();
        for (int t = 0; t < 16; t++) row.type(0, t - 1);
        row.member(0, 0, PLAIN);
        check.due("found at the top of sixteen", row.found(15, 0), 0);
        check.due("chosen at the top of sixteen", row.chosen(15, 15, 0), 0);
    }

    /** Faces 0 and 1 stand alone; 2 is a face and 3 a class with both. */
    private static CallGraphs twoFaces() {
        CallGraphs g = new CallGraphs();
        for (int i = 0; i < 3; i++) g.type(2, -1);
        g.type(0, -1);
        for (int t = 2; t < 4; t++) {
            g.face(t, 1);
            g.face(t, 0);
        }
        return g;
    }

    private static void foundInFaces() {
        CallGraphs g = twoFaces();
        g.member(1, 0, BARE);
        g.member(0, 0, PLAIN);
        check.due("the PLAIN one, though not the least", g.found(3, 0), 1);
        check.due("so in a face", g.found(2, 0), 1);
        g.member(1, 1, PLAIN);
        g.member(0, 1, PLAIN);
        check.due("several PLAIN: the least member", g.found(3, 1), 2);
        g.member(1, 2, BARE);
        g.member(0, 2, BARE);
        check.due("none PLAIN: the least member", g.found(3, 2), 4);
        g.member(0, 3, STATIC);
        g.member(1, 3, PRIVATE);
        check.due("STATIC and PRIVATE of a face ABOVE are not LEFT", g.found(3, 3), CallGraphs.NONE);
        check.due("but in the face itself", g.found(0, 3), 6);
        check.due("and in the other", g.found(1, 3), 7);
    }

    private static void chosenInClasses() {
        CallGraphs g = new CallGraphs();
        g.type(1, -1);
        g.type(0, 0);
        g.type(0, 1);
        check.due("nothing FOUND", g.chosen(2, 0, 0), CallGraphs.MISSING);
        g.member(0, 0, BARE);
        check.due("BARE", g.chosen(2, 0, 0), CallGraphs.BARE);
        g.member(1, 0, PLAIN);
        check.due("of the SUPER of c", g.chosen(2, 0, 0), 1);
        g.member(2, 0, STATIC);
        check.due("STATIC of c is passed over", g.chosen(2, 0, 0), 1);
        check.due("STATIC that is FOUND", g.chosen(2, 2, 0), CallGraphs.UNLIKE);
        g.member(0, 1, PRIVATE);
        g.member(2, 1, PLAIN);
        check.due("PRIVATE that is FOUND stays", g.chosen(2, 0, 1), 3);
        check.due("from below", g.chosen(2, 2, 1), 4);
        g.member(0, 2, PLAIN);
        g.member(1, 2, PRIVATE);
        check.due("PRIVATE on the way is passed over", g.chosen(2, 0, 2), 5);
        check.due("PRIVATE FOUND in the middle", g.chosen(2, 1, 2), 6);
        g.member(0, 3, PLAIN);
        check.due("of the class itself", g.chosen(0, 0, 3), 7);
    }

    private static void chosenInFaces() {
        CallGraphs g = twoFaces();
        g.member(0, 0, PLAIN);
        g.member(1, 0, BARE);
        check.due("one PLAIN", g.chosen(3, 1, 0), 0);
        check.due("BARE face for itself", g.chosen(1, 1, 0), CallGraphs.BARE);
        check.due("for a face", g.chosen(2, 0, 0), 0);
        g.member(0, 1, PLAIN);
        g.member(1, 1, PLAIN);
        check.due("two PLAIN", g.chosen(3, 0, 1), CallGraphs.CLASH);
        check.due("two PLAIN for a face", g.chosen(2, 1, 1), CallGraphs.CLASH);
        check.due("one alone", g.chosen(1, 1, 1), 3);
        g.member(0, 2, BARE);
        g.member(1, 2, BARE);
        check.due("none PLAIN", g.chosen(3, 3, 2), CallGraphs.BARE);
        g.member(0, 3, PRIVATE);
        check.due("PRIVATE of a face", g.chosen(3, 0, 3), 6);
        check.due("is not FOUND from below", g.chosen(3, 3, 3), CallGraphs.MISSING);
        g.member(3, 1, PLAIN);
        check.due("the class settles the CLASH", g.chosen(3, 0, 1), 7);
    }

    private static void hiddenFaces() {
        CallGraphs g = new CallGraphs();
        for (int i = 0; i < 4; i++) g.type(2, -1);
        g.type(0, -1);
        g.face(1, 0);
        g.face(2, 1);
        g.face(4, 0);
        g.face(4, 2);
        g.face(4, 3);
        g.member(0, 0, PLAIN);
        check.due("one face has it", g.chosen(4, 0, 0), 0);
        g.member(2, 0, BARE);
        check.due("hidden by one two UNDER it, though BARE", g.chosen(4, 0, 0), CallGraphs.BARE);
        check.due("FOUND is the one UNDER", g.found(4, 0), 1);
        g.member(3, 0, PLAIN);
        check.due("beside it one that is PLAIN", g.chosen(4, 0, 0), 2);
        check.due("which is FOUND", g.found(4, 0), 2);
        g.member(0, 1, PLAIN);
        g.member(1, 1, STATIC);
        check.due("a STATIC hides nothing", g.chosen(4, 0, 1), 3);
        check.due("nor when to find", g.found(4, 1), 3);
    }

    private static void questionsRefused() {
        CallGraphs g = three();
        g.type(0, 1);
        check.due("found: type 4", g.found(4, 0), CallGraphs.UNKNOWN);
        check.due("found: type -1", g.found(-1, 0), CallGraphs.UNKNOWN);
        check.due("found: UNKNOWN before OUTSIDE", g.found(4, 10), CallGraphs.UNKNOWN);
        check.due("found: NAME 10", g.found(0, 10), CallGraphs.OUTSIDE);
        check.due("found: NAME -1", g.found(0, -1), CallGraphs.OUTSIDE);
        check.due("found: NAME 9", g.found(0, 9), CallGraphs.NONE);
        check.due("chosen: c 4", g.chosen(4, 0, 0), CallGraphs.UNKNOWN);
        check.due("chosen: type 4", g.chosen(0, 4, 0), CallGraphs.UNKNOWN);
        check.due("chosen: c -1, NAME 10", g.chosen(-1, 0, 10), CallGraphs.UNKNOWN);
        check.due("chosen: NAME 10", g.chosen(0, 0, 10), CallGraphs.OUTSIDE);
        check.due("chosen: NAME -1", g.chosen(0, 0, -1), CallGraphs.OUTSIDE);
        check.due("chosen: not UNDER", g.chosen(1, 3, 0), CallGraphs.OUTSIDE);
        check.due("chosen: UNDER", g.chosen(3, 1, 0), CallGraphs.MISSING);
    }
}
