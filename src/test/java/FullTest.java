import java.util.Random;

/** Programs in which no room is left (16 types, 48 members, 160 OPS), asked everything; the oracle tells what is due. */
public final class FullTest {
    private static final int PROGRAMS = 12;

    private final Check check;
    private final Random random;
    private final CallGraphs mine = new CallGraphs();
    private final Oracle due = new Oracle();

    private FullTest(Check check, long seed) {
        this.check = check;
        random = new Random(seed);
    }

    public static void main(String[] args) {
        Check check = new Check("FullTest");
        for (int seed = 0; seed < PROGRAMS; seed++) {
            FullTest test = new FullTest(check, seed);
            test.fill();
            test.askTypes();
            test.askMembers();
            test.askRuns();
            test.refuse();
        }
        check.end();
    }

    private void fill() {
        while (due.count(0) < 16) {
            int kind = random.nextInt(3);
            int above = kind == 2 || random.nextInt(4) == 0 ? -1 : random.nextInt(due.count(0) + 1);
            check.due("type", mine.type(kind, above), due.type(kind, above));
        }
        for (int i = 0; i < 60; i++) {
            int t = random.nextInt(16);
            int f = random.nextInt(16);
            check.due("face", mine.face(t, f), due.face(t, f));
        }
        for (int i = 0; due.count(1) < 48; i++) {
            int name = random.nextInt(3) > 0 ? random.nextInt(3) : random.nextInt(10);
            int t = random.nextInt(16);
            int sort = i % 5;
            check.due("member", mine.member(t, name, sort), due.member(t, name, sort));
        }
        while (due.count(2) < 160) {
            int kind = random.nextInt(8);
            int m = random.nextInt(48);
            int a = random.nextInt(kind < 5 ? 16 : 4);
            int b = random.nextInt(kind == 5 ? 48 : 10);
            check.due("op", mine.op(m, kind, a, b), due.op(m, kind, a, b));
        }
        for (int i = 0; i < 6; i++) {
            int m = random.nextInt(48);
            check.due("root", mine.root(m, true), due.root(m, true));
        }
    }

    private void askTypes() {
        for (int t = 0; t < 16; t++) {
            for (int name = 0; name < 10; name++) check.due("found", mine.found(t, name), due.found(t, name));
            for (int c = 0; c < 16; c++) {
                check.due("under", mine.under(c, t), due.under(c, t));
                for (int name = 0; name < 3; name++) check.due("chosen", mine.chosen(c, t, name), due.chosen(c, t, name));
            }
            for (int what = 0; what < 2; what++) check.due("made", mine.made(t, what), due.made(t, what));
        }
        for (int what = 0; what < 10; what++) check.due("count", mine.count(what), due.count(what));
    }

    private void askMembers() {
        for (int m = 0; m < 48; m++) {
            for (int what = 0; what < 5; what++) check.due("about", mine.about(m, what), due.about(m, what));
            for (int i = 0; i < 4; i++) {
                check.due("way", mine.way(m, i), due.way(m, i));
                check.due("caller", mine.caller(m, i), due.caller(m, i));
                check.due("callee", mine.callee(m, i, 0), due.callee(m, i, 0));
                check.due("faults", mine.faults(m, 0, -2 - i), due.faults(m, 0, -2 - i));
            }
        }
    }

    private void askRuns() {
        for (long seed = 0; seed < 20; seed++) {
            for (int what = 0; what < 6; what++) check.due("run", mine.run(seed, what), due.run(seed, what));
            check.due("holds", mine.holds(seed), true);
        }
    }

    private void refuse() {
        check.due("a 17th type", mine.type(0, -1), CallGraphs.ROOM);
        check.due("a 161st OP", due.op(47, 7, 0, 0), mine.op(47, 7, 0, 0));
        check.due("types as before", mine.count(0), 16);
        check.due("OPS as before", mine.count(2), 160);
    }
}
