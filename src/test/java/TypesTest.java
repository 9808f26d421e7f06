/** Promises 1 (a new object), 2 (type), 3 (face) and 8 (under), sentence by sentence. */
public final class TypesTest implements Words {
    private static final Check check = new Check("TypesTest");

    public static void main(String[] args) {
        noTypes();
        objectsAreApart();
        atMost512Calls();
        typeNumbers();
        typeUnknown();
        typeKind();
        faceWithSuper();
        superThatIsFace();
        typeRoom();
        superOfLesserNumber();
        howManyFaces();
        faceUnknown();
        noFace();
        notOfLesserNumber();
        oneOfThem();
        faceRoom();
        underItself();
        underSuper();
        underFaces();
        underWhatIsAbove();
        aboveComesLate();
        underUnknown();
        check.end();
    }

    private static CallGraphs types(int... kinds) {
        CallGraphs g = new CallGraphs();
        for (int kind : kinds) g.type(kind, NONE);
        return g;
    }

    private static CallGraphs faces(int n) {
        CallGraphs g = new CallGraphs();
        for (int t = 0; t < n; t++) g.type(FACE, NONE);
        return g;
    }

    private static void noTypes() {
        check.sentence(1, "No types.");
        CallGraphs g = new CallGraphs();
        for (int what = 0; what <= 9; what++) check.due("count(" + what + ")", g.count(what), 0);
        check.due("under(0, 0)", g.under(0, 0), UNKNOWN);
        check.due("found(0, 0)", g.found(0, 0), UNKNOWN);
        check.due("chosen(0, 0, 0)", g.chosen(0, 0, 0), UNKNOWN);
        check.due("made(0, 0)", g.made(0, 0), UNKNOWN);
        check.due("face(0, 0)", g.face(0, 0), UNKNOWN);
        check.due("member(0, 0, PLAIN)", g.member(0, 0, PLAIN), UNKNOWN);
        check.due("op(0, OUT, 0, 0)", g.op(0, OUT, 0, 0), UNKNOWN);
        check.due("root(0, true)", g.root(0, true), UNKNOWN);
        check.due("about(0, 0)", g.about(0, 0), UNKNOWN);
        check.due("callee(0, 0, 0)", g.callee(0, 0, 0), UNKNOWN);
        check.due("faults(0, 0, -2)", g.faults(0, 0, -2), UNKNOWN);
        check.due("caller(0, 0)", g.caller(0, 0), UNKNOWN);
        check.due("way(0, 0)", g.way(0, 0), UNKNOWN);
        for (int what = 0; what <= 4; what++) check.due("run(7, " + what + ")", g.run(7, what), 0);
        check.due("run(7, 5)", g.run(7, 5), NONE);
        check.due("holds(7)", g.holds(7), true);
        check.due("the first type", g.type(CLASS, NONE), 0);
    }

    private static void objectsAreApart() {
        check.sentence(1, "A new object");
        CallGraphs one = types(CLASS);
        one.member(0, 0, SHARED);
        one.op(0, NEW, 0, 0);
        one.root(0, true);
        CallGraphs other = new CallGraphs();
        for (int what = 0; what <= 9; what++) check.due("count(" + what + ") of another one", other.count(what), 0);
        check.due("the other one's first type", other.type(FACE, NONE), 0);
        check.due("the first one's types", one.count(0), 1);
        check.due("the first one's MADE classes", one.count(5), 1);
    }

    /** What the document says before its face: the 512th call is still one that counts. */
    private static void atMost512Calls() {
        check.sentence(0, "at most 512 calls after it has been made");
        CallGraphs g = types(CLASS);
        for (int calls = 1; calls < 509; calls++) g.run(calls, calls % 6);
        check.due("the 510th call", g.member(0, 9, SHARED), 0);
        check.due("the 511th call", g.root(0, true), 1);
        check.due("the 512th call", g.count(4), 1);
    }

    private static void typeNumbers() {
        check.sentence(2, "A type; above is its SUPER (NONE: it has none): its number.");
        CallGraphs g = new CallGraphs();
        check.due("a CLASS", g.type(CLASS, NONE), 0);
        check.due("an ABSTRACT CLASS", g.type(ABSTRACT, NONE), 1);
        check.due("a FACE", g.type(FACE, NONE), 2);
        check.due("a CLASS, its SUPER type 0", g.type(CLASS, 0), 3);
        check.due("a CLASS, its SUPER an ABSTRACT CLASS", g.type(CLASS, 1), 4);
        check.due("an ABSTRACT CLASS, its SUPER a CLASS", g.type(ABSTRACT, 4), 5);
        check.due("count(0)", g.count(0), 6);
        check.due("UNDER its SUPER", g.under(3, 0), 1);
        check.due("UNDER the SUPER of that", g.under(5, 1), 1);
        check.due("without a SUPER", g.under(1, 0), 0);
    }

    private static void typeUnknown() {
        check.sentence(2, "UNKNOWN (above)");
        CallGraphs g = new CallGraphs();
        check.due("no type is there", g.type(CLASS, 0), UNKNOWN);
        g.type(CLASS, NONE);
        check.due("the number it would get", g.type(CLASS, 1), UNKNOWN);
        check.due("one less than NONE", g.type(CLASS, -2), UNKNOWN);
        check.due("the least number", g.type(ABSTRACT, LEAST), UNKNOWN);
        check.due("the greatest number", g.type(ABSTRACT, GREATEST), UNKNOWN);
        check.due("of a FACE", g.type(FACE, 1), UNKNOWN);
        check.due("count(0)", g.count(0), 1);
        check.due("one that is there", g.type(CLASS, 0), 1);
    }

    private static void typeKind() {
        check.sentence(2, "OUTSIDE (kind");
        CallGraphs g = types(CLASS);
        int[] wrong = {-1, 3, LEAST, GREATEST};
        for (int kind : wrong) {
            check.due("type(" + kind + ", NONE)", g.type(kind, NONE), OUTSIDE);
            check.due("type(" + kind + ", 0)", g.type(kind, 0), OUTSIDE);
        }
        check.due("count(0)", g.count(0), 1);
        for (int kind = 0; kind <= 2; kind++) check.due("type(" + kind + ", NONE)", g.type(kind, NONE), 1 + kind);
    }

    private static void faceWithSuper() {
        check.sentence(2, "a FACE with a SUPER");
        CallGraphs g = types(CLASS, ABSTRACT, FACE);
        for (int above = 0; above < 3; above++) check.due("type(FACE, " + above + ")", g.type(FACE, above), OUTSIDE);
        check.due("count(0)", g.count(0), 3);
        check.due("without", g.type(FACE, NONE), 3);
    }

    private static void superThatIsFace() {
        check.sentence(2, "a SUPER that is a face");
        CallGraphs g = types(FACE, CLASS);
        check.due("of a CLASS", g.type(CLASS, 0), OUTSIDE);
        check.due("of an ABSTRACT CLASS", g.type(ABSTRACT, 0), OUTSIDE);
        check.due("count(0)", g.count(0), 2);
        check.due("a class", g.type(CLASS, 1), 2);
    }

    private static void typeRoom() {
        check.sentence(2, "ROOM, since TYPES are 16 at most");
        for (int kind = 0; kind < 3; kind++) {
            CallGraphs g = new CallGraphs();
            for (int t = 0; t < 16; t++) check.due("type " + t, g.type(t == 0 ? CLASS : kind, NONE), t);
            check.due("a 17th, a CLASS", g.type(CLASS, NONE), ROOM);
            check.due("a 17th, an ABSTRACT CLASS with a SUPER", g.type(ABSTRACT, 0), ROOM);
            check.due("a 17th, a FACE", g.type(FACE, NONE), ROOM);
            check.due("count(0)", g.count(0), 16);
            check.due("no type 16", g.under(16, 16), UNKNOWN);
            check.due("the last one", g.under(15, 15), 1);
            check.due("its members", g.member(15, 9, PLAIN), 0);
            check.due("its NAME 9", g.found(15, 9), 0);
        }
    }

    private static void superOfLesserNumber() {
        check.sentence(0, "A class (0, 1) may have a SUPER, a class with a lesser number");
        CallGraphs g = new CallGraphs();
        for (int t = 0; t < 16; t++) {
            check.due("its own number", g.type(t % 2, t), UNKNOWN);
            check.due("the number before", g.type(t % 2, t - 1), t);
        }
        for (int t = 0; t < 16; t++) {
            check.due("the last is UNDER " + t, g.under(15, t), 1);
            check.due("the first is UNDER " + t, g.under(0, t), t == 0 ? 1 : 0);
        }
    }

    private static void howManyFaces() {
        check.sentence(3, "A face comes to the FACES of a type: how many it has.");
        CallGraphs g = types(FACE, FACE, FACE, FACE, CLASS, ABSTRACT);
        for (int t = 3; t < 6; t++) {
            check.due("the first of " + t, g.face(t, 2), 1);
            check.due("the second of " + t, g.face(t, 0), 2);
            check.due("the third of " + t, g.face(t, 1), 3);
        }
        CallGraphs below = types(FACE, CLASS);
        below.type(CLASS, 1);
        below.face(1, 0);
        check.due("those of the SUPER do not count", below.face(2, 0), 1);
    }

    private static void faceUnknown() {
        check.sentence(3, "UNKNOWN");
        check.due("no type is there", new CallGraphs().face(0, 0), UNKNOWN);
        CallGraphs g = types(FACE, CLASS);
        int[] wrong = {-1, 2, LEAST, GREATEST};
        for (int n : wrong) {
            check.due("face(" + n + ", 0)", g.face(n, 0), UNKNOWN);
            check.due("face(1, " + n + ")", g.face(1, n), UNKNOWN);
            check.due("face(" + n + ", " + n + ")", g.face(n, n), UNKNOWN);
        }
        check.due("both are there", g.face(1, 0), 1);
    }

    private static void noFace() {
        check.sentence(3, "OUTSIDE (it is no FACE");
        CallGraphs g = types(CLASS, ABSTRACT, CLASS);
        check.due("a CLASS", g.face(2, 0), OUTSIDE);
        check.due("an ABSTRACT CLASS", g.face(2, 1), OUTSIDE);
        g.type(CLASS, 0);
        check.due("its SUPER", g.face(3, 0), OUTSIDE);
        check.due("UNDER what it was before", g.under(2, 1), 0);
    }

    private static void notOfLesserNumber() {
        check.sentence(3, "or not of a lesser number)");
        CallGraphs g = types(FACE, CLASS, FACE);
        check.due("itself", g.face(2, 2), OUTSIDE);
        check.due("the first, itself", g.face(0, 0), OUTSIDE);
        check.due("one more, of a class", g.face(1, 2), OUTSIDE);
        check.due("more, of a face", g.face(0, 2), OUTSIDE);
        check.due("not UNDER it", g.under(1, 2), 0);
        check.due("one less", g.face(1, 0), 1);
    }

    private static void oneOfThem() {
        check.sentence(3, "STATE (it is one of them)");
        CallGraphs g = types(FACE, FACE, FACE, CLASS);
        for (int f = 0; f < 3; f++) {
            g.face(3, f);
            for (int there = 0; there <= f; there++) check.due("face(3, " + there + ")", g.face(3, there), STATE);
        }
        CallGraphs above = types(FACE, FACE, CLASS);
        above.face(1, 0);
        above.face(2, 1);
        check.due("one that is ABOVE, but none of them", above.face(2, 0), 2);
    }

    private static void faceRoom() {
        check.sentence(3, "ROOM, since each type has up to 3 FACES");
        for (int kind = 0; kind < 3; kind++) {
            CallGraphs g = types(FACE, FACE, FACE, FACE, kind, kind);
            for (int f = 0; f < 3; f++) check.due("face(4, " + f + ")", g.face(4, f), f + 1);
            check.due("a fourth", g.face(4, 3), ROOM);
            check.due("not UNDER it", g.under(4, 3), 0);
            check.due("of another type", g.face(5, 3), 1);
        }
        CallGraphs last = faces(16);
        for (int n = 1; n <= 3; n++) check.due("face(15, " + (15 - n) + ")", last.face(15, 15 - n), n);
        check.due("a fourth of the last", last.face(15, 0), ROOM);
    }

    private static void underItself() {
        check.sentence(0, "A type is UNDER another one, if it is that");
        CallGraphs g = types(CLASS, ABSTRACT, FACE);
        for (int t = 0; t < 3; t++) {
            for (int other = 0; other < 3; other++) check.due("under(" + t + ", " + other + ")", g.under(t, other), t == other ? 1 : 0);
        }
    }

    private static void underSuper() {
        check.sentence(0, "ABOVE a type are its SUPER");
        CallGraphs g = types(CLASS, CLASS);
        g.type(CLASS, 0);
        check.due("its SUPER", g.under(2, 0), 1);
        check.due("another class", g.under(2, 1), 0);
        check.due("the other way", g.under(0, 2), 0);
    }

    private static void underFaces() {
        check.sentence(0, "its FACES");
        CallGraphs g = types(FACE, FACE, FACE, FACE, CLASS);
        int[] told = {3, 0, 2};
        for (int f : told) g.face(4, f);
        for (int f = 0; f < 4; f++) {
            check.due("under(4, " + f + ")", g.under(4, f), f == 1 ? 0 : 1);
            check.due("under(" + f + ", 4)", g.under(f, 4), 0);
        }
    }

    private static void underWhatIsAbove() {
        check.sentence(0, "and what is ABOVE these");
        CallGraphs row = faces(16);
        for (int t = 1; t < 16; t++) row.face(t, t - 1);
        for (int t = 0; t < 16; t++) {
            check.due("in a row of sixteen: under(15, " + t + ")", row.under(15, t), 1);
            check.due("in a row of sixteen: under(" + t + ", 8)", row.under(t, 8), t >= 8 ? 1 : 0);
        }
        CallGraphs g = types(FACE, FACE, CLASS);
        g.type(CLASS, 2);
        g.type(CLASS, 3);
        g.face(1, 0);
        g.face(2, 1);
        check.due("the face of a face of the SUPER's SUPER", g.under(4, 0), 1);
        check.due("not the other way", g.under(0, 4), 0);
    }

    private static void aboveComesLate() {
        check.sentence(8, "Whether a type is UNDER another one: 1, 0.");
        CallGraphs g = types(FACE, FACE, ABSTRACT);
        g.type(CLASS, 2);
        g.face(2, 1);
        check.due("before", g.under(3, 0), 0);
        g.face(1, 0);
        check.due("of a face of the SUPER, told late", g.under(3, 0), 1);
        check.due("of the SUPER", g.under(2, 0), 1);
        check.due("the other way", g.under(0, 1), 0);
    }

    private static void underUnknown() {
        check.sentence(8, "UNKNOWN");
        CallGraphs g = types(FACE, CLASS);
        int[] wrong = {-1, 2, LEAST, GREATEST};
        for (int n : wrong) {
            check.due("under(" + n + ", 0)", g.under(n, 0), UNKNOWN);
            check.due("under(1, " + n + ")", g.under(1, n), UNKNOWN);
            check.due("under(" + n + ", " + n + ")", g.under(n, n), UNKNOWN);
        }
        check.due("both are there", g.under(1, 0), 0);
    }
}
