/** Promises 4 (member), 9 (found) and 10 (chosen), sentence by sentence, with what is said TO FIND and TO CHOOSE. */
public final class MembersTest implements Words {
    private static final int[] WRONG_NAMES = {-1, 10, LEAST, GREATEST};
    private static final Check check = new Check("MembersTest");

    public static void main(String[] args) {
        memberNumbers();
        memberUnknown();
        memberSort();
        memberName();
        nameOfStart();
        bareOfClass();
        nameIsThere();
        startIsThere();
        memberRoom();

        firstOfType();
        thenOfSuper();
        whenItIsAClass();
        leftAreOfFacesAbove();
        leftArePlainOrBare();
        hiddenByOneUnder();
        hiddenByThatOfLeftAlone();
        justOnePlain();
        elseTheLeast();
        foundNone();
        foundUnknown();
        foundOutside();

        privateStays();
        firstPlainOrBare();
        elseBare();
        chosenOfLeft();
        chosenClash();
        chosenMissing();
        chosenUnlike();
        chosenUnknown();
        chosenOutsideName();
        chosenNotUnder();
        check.end();
    }

    private static CallGraphs types(int... kinds) {
        CallGraphs g = new CallGraphs();
        for (int kind : kinds) g.type(kind, NONE);
        return g;
    }

    /** Faces 0 .. n - 1, and behind them an ABSTRACT CLASS and a FACE which have these as their FACES. */
    private static CallGraphs withFaces(int n) {
        CallGraphs g = new CallGraphs();
        for (int f = 0; f < n; f++) g.type(FACE, NONE);
        g.type(ABSTRACT, NONE);
        g.type(FACE, NONE);
        for (int t = n; t < n + 2; t++) {
            for (int f = n - 1; f >= 0; f--) g.face(t, f);
        }
        return g;
    }

    private static void memberNumbers() {
        check.sentence(4, "A member: its number.");
        CallGraphs g = types(CLASS, ABSTRACT, FACE);
        check.due("PLAIN, NAME 0", g.member(0, 0, PLAIN), 0);
        check.due("STATIC, NAME 9", g.member(0, 9, SHARED), 1);
        check.due("PRIVATE", g.member(0, 5, PRIVATE), 2);
        check.due("START", g.member(0, 0, START), 3);
        check.due("of another type, BARE", g.member(1, 0, BARE), 4);
        check.due("of a FACE, BARE", g.member(2, 0, BARE), 5);
        check.due("of a FACE, PLAIN", g.member(2, 1, PLAIN), 6);
        check.due("of a FACE, STATIC", g.member(2, 2, SHARED), 7);
        check.due("of a FACE, PRIVATE", g.member(2, 3, PRIVATE), 8);
        check.due("of a FACE, START", g.member(2, 4, START), 9);
        check.due("count(1)", g.count(1), 10);
    }

    private static void memberUnknown() {
        check.sentence(4, "UNKNOWN (type)");
        check.due("no type is there", new CallGraphs().member(0, 0, PLAIN), UNKNOWN);
        CallGraphs g = types(CLASS, FACE);
        int[] wrong = {-1, 2, LEAST, GREATEST};
        for (int t : wrong) {
            for (int sort = 0; sort < 5; sort++) check.due("member(" + t + ", 0, " + sort + ")", g.member(t, 0, sort), UNKNOWN);
        }
        check.due("count(1)", g.count(1), 0);
        check.due("the last one that is there", g.member(1, 0, PLAIN), 0);
    }

    private static void memberSort() {
        check.sentence(4, "OUTSIDE (sort");
        CallGraphs g = types(FACE);
        int[] wrong = {-1, 5, LEAST, GREATEST};
        for (int sort : wrong) check.due("member(0, 0, " + sort + ")", g.member(0, 0, sort), OUTSIDE);
        check.due("count(1)", g.count(1), 0);
        for (int sort = 0; sort < 5; sort++) check.due("sort " + sort, g.member(0, sort, sort), sort);
    }

    private static void memberName() {
        check.sentence(4, "OUTSIDE (name), since all but START have a NAME 0 .. 9");
        CallGraphs g = types(FACE);
        for (int name : WRONG_NAMES) {
            for (int sort = 0; sort < 4; sort++) check.due("member(0, " + name + ", " + sort + ")", g.member(0, name, sort), OUTSIDE);
        }
        check.due("count(1)", g.count(1), 0);
        for (int name = 0; name < 10; name++) check.due("NAME " + name, g.member(0, name, name % 4), name);
    }

    private static void nameOfStart() {
        check.sentence(4, "(name, but of START)");
        int[] names = {-1, 10, LEAST, GREATEST, 0, 9};
        for (int name : names) {
            CallGraphs g = types(CLASS);
            check.due("member(0, " + name + ", START)", g.member(0, name, START), 0);
            for (int n = 0; n < 10; n++) check.due("found(0, " + n + ")", g.found(0, n), NONE);
        }
    }

    private static void bareOfClass() {
        check.sentence(4, "BARE of a CLASS");
        CallGraphs g = types(CLASS, ABSTRACT, FACE);
        check.due("of a CLASS", g.member(0, 0, BARE), OUTSIDE);
        check.due("count(1)", g.count(1), 0);
        check.due("of an ABSTRACT CLASS", g.member(1, 0, BARE), 0);
        check.due("of a FACE", g.member(2, 0, BARE), 1);
        g.type(CLASS, 1);
        check.due("of a CLASS UNDER one that has it", g.member(3, 0, BARE), OUTSIDE);
    }

    private static void nameIsThere() {
        check.sentence(4, "STATE (the type has one of the NAME), since a type has one of a NAME at most");
        for (int first = 0; first < 4; first++) {
            CallGraphs g = types(FACE, FACE);
            g.member(0, 9, first);
            for (int sort = 0; sort < 4; sort++) check.due("sort " + sort + " behind " + first, g.member(0, 9, sort), STATE);
            check.due("count(1)", g.count(1), 1);
            check.due("another NAME", g.member(0, 8, first), 1);
            check.due("of another type", g.member(1, 9, first), 2);
            check.due("a START with this number", g.member(0, 9, START), 3);
        }
        CallGraphs below = types(CLASS);
        below.type(CLASS, 0);
        below.member(0, 0, PLAIN);
        check.due("the SUPER's is another type's", below.member(1, 0, PLAIN), 1);
    }

    private static void startIsThere() {
        check.sentence(4, "STATE (or a START), since a type has one START at most");
        CallGraphs g = types(CLASS, CLASS);
        g.member(0, 3, START);
        int[] names = {3, 4, -1, 10};
        for (int name : names) check.due("member(0, " + name + ", START)", g.member(0, name, START), STATE);
        check.due("count(1)", g.count(1), 1);
        check.due("a member of the NAME it was told with", g.member(0, 3, PLAIN), 1);
        check.due("of another type", g.member(1, 3, START), 2);
    }

    private static void memberRoom() {
        check.sentence(4, "ROOM, since MEMBERS are 48 at most");
        CallGraphs g = types(FACE, FACE, FACE, FACE, FACE, FACE);
        for (int m = 0; m < 48; m++) check.due("member " + m, g.member(m / 10, m % 10, m % 4), m);
        for (int sort = 0; sort < 5; sort++) check.due("a 49th of sort " + sort, g.member(5, 0, sort), ROOM);
        check.due("count(1)", g.count(1), 48);
        check.due("no member 48", g.about(48, 0), UNKNOWN);
        check.due("the last one", g.found(4, 7), 47);
        check.due("the refused one", g.found(5, 0), NONE);

        CallGraphs starts = types(FACE, FACE, FACE, FACE, FACE);
        for (int m = 0; m < 47; m++) starts.member(m / 10, m % 10, PLAIN);
        check.due("a START as the 48th", starts.member(0, 0, START), 47);
        check.due("a START as the 49th", starts.member(1, 0, START), ROOM);
    }

    private static void firstOfType() {
        check.sentence(0, "the first member of this NAME (of any sort) of t");
        for (int sort = 0; sort < 4; sort++) {
            CallGraphs g = types(FACE, ABSTRACT);
            g.type(ABSTRACT, 1);
            g.face(2, 0);
            g.member(0, 0, PLAIN);
            g.member(1, 0, PLAIN);
            g.member(2, 0, sort);
            check.due("sort " + sort + " of a class, before its SUPER's and its face's", g.found(2, 0), 2);

            CallGraphs faces = types(FACE, FACE);
            faces.face(1, 0);
            faces.member(0, 0, PLAIN);
            faces.member(1, 0, sort);
            check.due("sort " + sort + " of a face, before its face's", faces.found(1, 0), 1);
        }
        CallGraphs start = types(CLASS);
        start.member(0, 0, START);
        check.due("a START has no NAME", start.found(0, 0), NONE);
    }

    private static void thenOfSuper() {
        check.sentence(0, "then, when t is a class, of its SUPER, the SUPER of that, and so on");
        for (int sort = 0; sort < 4; sort++) {
            CallGraphs g = types(FACE, ABSTRACT);
            g.type(ABSTRACT, 1);
            g.type(ABSTRACT, 2);
            g.face(3, 0);
            g.member(0, 0, PLAIN);
            g.member(1, 0, sort);
            check.due("sort " + sort + " of the SUPER's SUPER, before the face's", g.found(3, 0), 1);
            g.member(2, 0, sort);
            check.due("sort " + sort + " of the SUPER, before that", g.found(3, 0), 2);
            check.due("from the top", g.found(1, 0), 1);
        }
        CallGraphs row = new CallGraphs();
        for (int t = 0; t < 16; t++) row.type(CLASS, t - 1);
        row.member(0, 9, SHARED);
        for (int t = 0; t < 16; t++) check.due("at the top of sixteen, from " + t, row.found(t, 9), 0);
    }

    private static void whenItIsAClass() {
        check.sentence(0, "when t is a class (a face has no SUPER: STATIC and PRIVATE are not FOUND from below it)");
        int[] sorts = {SHARED, PRIVATE};
        for (int sort : sorts) {
            CallGraphs g = types(FACE, FACE, CLASS);
            g.face(1, 0);
            g.face(2, 1);
            g.member(0, 0, sort);
            check.due("in the face itself", g.found(0, 0), 0);
            check.due("in a face UNDER it", g.found(1, 0), NONE);
            check.due("in a class UNDER it", g.found(2, 0), NONE);
        }
    }

    private static void leftAreOfFacesAbove() {
        check.sentence(0, "LEFT are the members of NAME n, of faces ABOVE t");
        CallGraphs g = types(FACE, FACE, FACE, CLASS);
        g.type(CLASS, 3);
        g.type(CLASS, 4);
        g.face(1, 0);
        g.face(3, 1);
        g.member(0, 0, PLAIN);
        g.member(2, 1, PLAIN);
        g.member(0, 2, BARE);
        check.due("of a face's face of the SUPER's SUPER", g.found(5, 0), 0);
        check.due("BARE, of the same", g.found(5, 2), 2);
        check.due("of a face that is not ABOVE", g.found(5, 1), NONE);
        check.due("another NAME", g.found(5, 3), NONE);
        CallGraphs row = new CallGraphs();
        for (int t = 0; t < 15; t++) {
            row.type(FACE, NONE);
            row.face(t, t - 1);
        }
        row.type(CLASS, NONE);
        row.face(15, 14);
        row.member(0, 9, PLAIN);
        for (int t = 0; t < 16; t++) check.due("at the top of fifteen faces, from " + t, row.found(t, 9), 0);
        check.due("and it is CHOSEN", row.chosen(15, 15, 9), 0);
    }

    private static void leftArePlainOrBare() {
        check.sentence(0, "that are PLAIN or BARE");
        int[] due = {0, 0, NONE, NONE};
        for (int sort = 0; sort < 4; sort++) {
            CallGraphs g = withFaces(1);
            g.member(0, 0, sort);
            check.due("sort " + sort + " from a class", g.found(1, 0), due[sort]);
            check.due("sort " + sort + " from a face", g.found(2, 0), due[sort]);
        }
    }

    /** Face 1 is UNDER 0, 2 UNDER 1, 3 stands alone; class 4 has 0, 2 and 3. */
    private static CallGraphs rowOfFaces() {
        CallGraphs g = types(FACE, FACE, FACE, FACE, ABSTRACT);
        g.face(1, 0);
        g.face(2, 1);
        g.face(4, 0);
        g.face(4, 2);
        g.face(4, 3);
        return g;
    }

    private static void hiddenByOneUnder() {
        check.sentence(0, "but those of a face for which another one's that is UNDER it (and not itself) is there");
        CallGraphs g = rowOfFaces();
        g.member(0, 0, PLAIN);
        check.due("alone: FOUND", g.found(4, 0), 0);
        check.due("alone: CHOSEN", g.chosen(4, 0, 0), 0);
        g.member(2, 0, BARE);
        check.due("one two UNDER it, BARE: FOUND", g.found(4, 0), 1);
        check.due("one two UNDER it, BARE: CHOSEN", g.chosen(4, 0, 0), WITHOUT_BODY);
        g.member(1, 0, PLAIN);
        check.due("one between: FOUND", g.found(4, 0), 1);
        check.due("one between: CHOSEN", g.chosen(4, 0, 0), WITHOUT_BODY);
        g.member(3, 0, PLAIN);
        check.due("one that stands beside them: FOUND", g.found(4, 0), 3);
        check.due("one that stands beside them: CHOSEN", g.chosen(4, 0, 0), 3);
        g.member(2, 1, PLAIN);
        g.member(0, 1, PLAIN);
        check.due("the one UNDER it, told first: FOUND", g.found(4, 1), 4);
        check.due("the one UNDER it, told first: CHOSEN", g.chosen(4, 0, 1), 4);
    }

    private static void hiddenByThatOfLeftAlone() {
        check.sentence(0, "(another one's, that is PLAIN or BARE, and of a face ABOVE t)");
        int[] sorts = {SHARED, PRIVATE};
        for (int sort : sorts) {
            CallGraphs g = rowOfFaces();
            g.member(0, 0, PLAIN);
            g.member(2, 0, sort);
            check.due("sort " + sort + " hides nothing: FOUND", g.found(4, 0), 0);
            check.due("sort " + sort + " hides nothing: CHOSEN", g.chosen(4, 0, 0), 0);
        }
        CallGraphs g = types(FACE, FACE, ABSTRACT);
        g.face(1, 0);
        g.face(2, 0);
        g.member(0, 0, PLAIN);
        g.member(1, 0, BARE);
        check.due("a face that is not ABOVE hides nothing: FOUND", g.found(2, 0), 0);
        check.due("a face that is not ABOVE hides nothing: CHOSEN", g.chosen(2, 0, 0), 0);
    }

    private static void justOnePlain() {
        check.sentence(0, "If just one of LEFT is PLAIN: that");
        for (int plain = 0; plain < 3; plain++) {
            CallGraphs g = withFaces(3);
            for (int f = 0; f < 3; f++) g.member(f, 0, f == plain ? PLAIN : BARE);
            check.due("that of face " + plain + ", in a class", g.found(3, 0), plain);
            check.due("that of face " + plain + ", in a face", g.found(4, 0), plain);
        }
    }

    private static void elseTheLeast() {
        check.sentence(0, "else the least of LEFT");
        int[][] sorts = {{BARE, BARE, BARE}, {PLAIN, PLAIN, PLAIN}, {PLAIN, BARE, PLAIN}, {BARE, PLAIN, PLAIN}};
        for (int[] some : sorts) {
            CallGraphs g = withFaces(3);
            for (int f = 2; f >= 0; f--) g.member(f, 0, some[f]);
            check.due("the least member, of the last face, in a class", g.found(3, 0), 0);
            check.due("the least member, of the last face, in a face", g.found(4, 0), 0);
        }
        CallGraphs two = withFaces(3);
        two.member(0, 0, BARE);
        two.member(2, 0, PLAIN);
        two.member(1, 0, PLAIN);
        check.due("two PLAIN: the least is BARE", two.found(3, 0), 0);
    }

    private static void foundNone() {
        check.sentence(9, "NONE, if there are none");
        CallGraphs g = withFaces(2);
        g.type(CLASS, 2);
        g.member(0, 1, START);
        for (int t = 0; t < 5; t++) {
            for (int name = 0; name < 10; name++) check.due("found(" + t + ", " + name + ")", g.found(t, name), NONE);
        }
        g.member(4, 0, PLAIN);
        for (int t = 0; t < 4; t++) check.due("what a type UNDER it has", g.found(t, 0), NONE);
        check.due("what it has", g.found(4, 0), 1);
    }

    private static void foundUnknown() {
        check.sentence(9, "UNKNOWN");
        CallGraphs g = types(CLASS, FACE);
        int[] wrong = {-1, 2, LEAST, GREATEST};
        for (int t : wrong) check.due("found(" + t + ", 0)", g.found(t, 0), UNKNOWN);
        check.due("found(1, 0)", g.found(1, 0), NONE);
    }

    private static void foundOutside() {
        check.sentence(9, "OUTSIDE");
        CallGraphs g = types(CLASS, FACE);
        for (int t = 0; t < 2; t++) {
            for (int name : WRONG_NAMES) check.due("found(" + t + ", " + name + ")", g.found(t, name), OUTSIDE);
        }
        g.member(0, 9, PLAIN);
        g.member(0, 0, PLAIN);
        check.due("NAME 9", g.found(0, 9), 0);
        check.due("NAME 0", g.found(0, 0), 1);
    }

    private static void privateStays() {
        check.sentence(0, "TO CHOOSE for a class or face c, when f was FOUND: f, if it is PRIVATE");
        CallGraphs g = types(ABSTRACT);
        g.type(ABSTRACT, 0);
        g.type(CLASS, 1);
        g.member(0, 0, PRIVATE);
        g.member(1, 0, BARE);
        g.member(2, 0, PLAIN);
        check.due("though c has a PLAIN one", g.chosen(2, 0, 0), 0);
        check.due("though its SUPER is BARE", g.chosen(1, 0, 0), 0);
        check.due("for itself", g.chosen(0, 0, 0), 0);
        check.due("FOUND below it is another", g.chosen(2, 1, 0), 2);
        CallGraphs faces = types(FACE, FACE);
        faces.face(1, 0);
        faces.member(0, 0, PRIVATE);
        faces.member(1, 0, PLAIN);
        check.due("of a face, for a face UNDER it", faces.chosen(1, 0, 0), 0);
    }

    private static void firstPlainOrBare() {
        check.sentence(0, "Else the first member of f's NAME that is PLAIN or BARE, of c, then, when c is a class, of its SUPER");
        int[] sorts = {SHARED, PRIVATE};
        for (int sort : sorts) {
            CallGraphs g = types(FACE, CLASS);
            g.type(CLASS, 1);
            g.type(CLASS, 2);
            g.face(3, 0);
            g.member(0, 0, PLAIN);
            g.member(1, 0, PLAIN);
            check.due("of the SUPER's SUPER, before the face's", g.chosen(3, 0, 0), 1);
            g.member(3, 0, sort);
            check.due("sort " + sort + " of c is passed over", g.chosen(3, 0, 0), 1);
            g.member(2, 0, sort);
            check.due("sort " + sort + " of the SUPER is passed over", g.chosen(3, 1, 0), 1);
        }
        CallGraphs own = types(CLASS);
        own.type(CLASS, 0);
        own.member(0, 0, PLAIN);
        own.member(1, 0, PLAIN);
        check.due("of c first", own.chosen(1, 0, 0), 1);
        check.due("of c, which is the type", own.chosen(0, 0, 0), 0);
        CallGraphs row = new CallGraphs();
        for (int t = 0; t < 16; t++) row.type(CLASS, t - 1);
        row.member(0, 9, PLAIN);
        check.due("at the top of sixteen", row.chosen(15, 0, 9), 0);
        check.due("at the top of sixteen, FOUND from below", row.chosen(15, 15, 9), 0);
    }

    private static void elseBare() {
        check.sentence(0, "it, if it is PLAIN; else BARE");
        CallGraphs g = types(FACE, CLASS);
        g.type(ABSTRACT, 1);
        g.type(CLASS, 2);
        g.face(3, 0);
        g.member(0, 0, PLAIN);
        g.member(1, 0, PLAIN);
        g.member(2, 0, BARE);
        check.due("the SUPER's, though above and beside it one is PLAIN", g.chosen(3, 0, 0), WITHOUT_BODY);
        check.due("for the one that has it", g.chosen(2, 1, 0), WITHOUT_BODY);
        check.due("for the one above", g.chosen(1, 1, 0), 1);
        g.member(3, 0, PLAIN);
        check.due("c has it again", g.chosen(3, 2, 0), 3);
        CallGraphs faces = types(FACE, FACE);
        faces.face(1, 0);
        faces.member(0, 0, PLAIN);
        faces.member(1, 0, BARE);
        check.due("of a face, though its face's is PLAIN", faces.chosen(1, 0, 0), WITHOUT_BODY);
    }

    private static void chosenOfLeft() {
        check.sentence(0, "Without one: LEFT, as above, of c: the one of these that is PLAIN; BARE, if none is");
        for (int plain = -1; plain < 3; plain++) {
            CallGraphs g = withFaces(3);
            for (int f = 0; f < 3; f++) g.member(f, 0, f == plain ? PLAIN : BARE);
            int due = plain < 0 ? WITHOUT_BODY : plain;
            check.due("PLAIN is " + plain + ": for a class", g.chosen(3, 0, 0), due);
            check.due("PLAIN is " + plain + ": for a face", g.chosen(4, 2, 0), due);
            check.due("PLAIN is " + plain + ": FOUND in c", g.chosen(3, 3, 0), due);
        }
        CallGraphs below = types(FACE, FACE, FACE);
        below.face(2, 0);
        below.face(2, 1);
        below.member(0, 0, BARE);
        below.member(1, 0, PLAIN);
        check.due("of c, not of the type where it was FOUND", below.chosen(2, 0, 0), 1);
        check.due("for the type itself", below.chosen(0, 0, 0), WITHOUT_BODY);
    }

    private static void chosenClash() {
        check.sentence(0, "CLASH, if several are");
        int[][] sorts = {{PLAIN, PLAIN, PLAIN}, {PLAIN, BARE, PLAIN}, {BARE, PLAIN, PLAIN}, {PLAIN, PLAIN, BARE}};
        for (int[] some : sorts) {
            CallGraphs g = withFaces(3);
            for (int f = 0; f < 3; f++) g.member(f, 0, some[f]);
            check.due("for a class", g.chosen(3, 3, 0), CLASH);
            check.due("for a face", g.chosen(4, 4, 0), CLASH);
            check.due("FOUND in one of the faces", g.chosen(3, 1, 0), CLASH);
            g.member(3, 0, PLAIN);
            check.due("the class has it itself", g.chosen(3, 1, 0), 3);
            check.due("the face still has not", g.chosen(4, 1, 0), CLASH);
        }
    }

    private static void chosenMissing() {
        check.sentence(10, "MISSING: nothing was FOUND");
        CallGraphs g = types(CLASS);
        g.type(CLASS, 0);
        check.due("none has it", g.chosen(1, 0, 0), MISSING);
        g.member(1, 0, PLAIN);
        check.due("c has it, the type has not", g.chosen(1, 0, 0), MISSING);
        check.due("the type has it", g.chosen(1, 1, 0), 0);
        CallGraphs faces = withFaces(1);
        faces.member(0, 0, PRIVATE);
        faces.member(0, 1, SHARED);
        check.due("a face ABOVE has a PRIVATE one alone", faces.chosen(1, 1, 0), MISSING);
        check.due("a face ABOVE has a STATIC one alone", faces.chosen(1, 1, 1), MISSING);
    }

    private static void chosenUnlike() {
        check.sentence(10, "UNLIKE (it is STATIC)");
        CallGraphs g = types(CLASS);
        g.type(CLASS, 0);
        g.member(0, 0, SHARED);
        check.due("of the type", g.chosen(0, 0, 0), UNLIKE);
        check.due("of the SUPER", g.chosen(1, 1, 0), UNLIKE);
        g.member(1, 0, PLAIN);
        check.due("though c has a PLAIN one", g.chosen(1, 0, 0), UNLIKE);
        CallGraphs face = types(FACE);
        face.member(0, 0, SHARED);
        check.due("of a face", face.chosen(0, 0, 0), UNLIKE);
    }

    private static void chosenUnknown() {
        check.sentence(10, "UNKNOWN");
        CallGraphs g = types(CLASS, FACE);
        int[] wrong = {-1, 2, LEAST, GREATEST};
        for (int t : wrong) {
            check.due("chosen(" + t + ", 0, 0)", g.chosen(t, 0, 0), UNKNOWN);
            check.due("chosen(0, " + t + ", 0)", g.chosen(0, t, 0), UNKNOWN);
            check.due("chosen(" + t + ", " + t + ", 0)", g.chosen(t, t, 0), UNKNOWN);
        }
        check.due("chosen(1, 1, 0)", g.chosen(1, 1, 0), MISSING);
    }

    private static void chosenOutsideName() {
        check.sentence(10, "OUTSIDE (name");
        CallGraphs g = types(CLASS, FACE);
        for (int t = 0; t < 2; t++) {
            for (int name : WRONG_NAMES) check.due("chosen(" + t + ", " + t + ", " + name + ")", g.chosen(t, t, name), OUTSIDE);
        }
        g.member(0, 9, PLAIN);
        g.member(0, 0, PLAIN);
        check.due("NAME 9", g.chosen(0, 0, 9), 0);
        check.due("NAME 0", g.chosen(0, 0, 0), 1);
    }

    private static void chosenNotUnder() {
        check.sentence(10, "c is not UNDER the type)");
        CallGraphs g = types(FACE, CLASS);
        g.type(CLASS, 1);
        g.face(2, 0);
        for (int t = 0; t < 3; t++) g.member(t, 0, PLAIN);
        int[][] due = {{0, OUTSIDE, OUTSIDE}, {OUTSIDE, 1, OUTSIDE}, {2, 2, 2}};
        for (int c = 0; c < 3; c++) {
            for (int t = 0; t < 3; t++) check.due("chosen(" + c + ", " + t + ", 0)", g.chosen(c, t, 0), due[c][t]);
        }
    }
}
