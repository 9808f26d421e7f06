import java.util.ArrayList;
import java.util.List;
import java.util.Random;
import java.util.function.ToIntFunction;

/**
 * Programs in which no room is left (16 types, 48 members, 160 OPS), asked everything; the oracle tells what is due.
 * Each program is told to several objects, as one takes 512 calls at most.
 */
public final class FullTest {
    private static final int PROGRAMS = 12, CALLS = 512;

    private final Check check;
    private final Random random;
    private final Oracle due = new Oracle();
    private final List<ToIntFunction<CallGraphs>> told = new ArrayList<>();
    private CallGraphs mine;
    private int callsLeft;

    private FullTest(Check check, long seed) {
        this.check = check;
        random = new Random(seed);
    }

    public static void main(String[] args) {
        Check check = new Check("FullTest");
        for (int seed = 0; seed < PROGRAMS; seed++) {
            FullTest test = new FullTest(check, seed);
            test.fill();
            test.askTypes();
            test.askMembers();
            test.askRuns();
            test.refuse();
        }
        check.end();
    }

    /** Only what the oracle takes is told, so that calls are left to ask. */
    private void tell(int answer, ToIntFunction<CallGraphs> call) {
        if (answer >= 0) told.add(call);
    }

    private void fill() {
        while (due.count(0) < 16) {
            int kind = random.nextInt(3);
            int above = kind == 2 || random.nextInt(4) == 0 ? -1 : random.nextInt(due.count(0) + 1);
            tell(due.type(kind, above), g -> g.type(kind, above));
        }
        for (int i = 0; i < 60; i++) {
            int t = random.nextInt(16);
            int f = random.nextInt(16);
            tell(due.face(t, f), g -> g.face(t, f));
        }
        for (int i = 0; due.count(1) < 48; i++) {
            int name = random.nextInt(3) > 0 ? random.nextInt(3) : random.nextInt(10);
            int t = random.nextInt(16);
            int sort = i % 5;
            tell(due.member(t, name, sort), g -> g.member(t, name, sort));
        }
        while (due.count(2) < 160) {
            int kind = random.nextInt(8);
            int m = random.nextInt(48);
            int a = random.nextInt(kind < 5 ? 16 : 4);
            int b = random.nextInt(kind == 5 ? 48 : 10);
            tell(due.op(m, kind, a, b), g -> g.op(m, kind, a, b));
        }
        for (int i = 0; i < 6; i++) {
            int m = random.nextInt(48);
            tell(due.root(m, true), g -> g.root(m, true));
        }
    }

    private void ask(String what, ToIntFunction<CallGraphs> call, int answer) {
        if (callsLeft == 0) {
            mine = new CallGraphs();
            for (ToIntFunction<CallGraphs> one : told) one.applyAsInt(mine);
            callsLeft = CALLS - told.size();
        }
        callsLeft--;
        check.due(what, call.applyAsInt(mine), answer);
    }

    private void askTypes() {
        for (int i = 0; i < 16 * 16; i++) {
            int t = i / 16;
            int c = i % 16;
            ask("under", g -> g.under(c, t), due.under(c, t));
            if (c < 10) ask("found", g -> g.found(t, c), due.found(t, c));
            if (c < 2) ask("made", g -> g.made(t, c), due.made(t, c));
            for (int n = 0; n < 3; n++) {
                int name = n;
                ask("chosen", g -> g.chosen(c, t, name), due.chosen(c, t, name));
            }
        }
        for (int i = 0; i < 10; i++) {
            int what = i;
            ask("count", g -> g.count(what), due.count(what));
        }
    }

    private void askMembers() {
        for (int i = 0; i < 48 * 5; i++) {
            int m = i / 5;
            int n = i % 5;
            ask("about", g -> g.about(m, n), due.about(m, n));
            ask("way", g -> g.way(m, n), due.way(m, n));
            ask("caller", g -> g.caller(m, n), due.caller(m, n));
            ask("callee", g -> g.callee(m, n, 0), due.callee(m, n, 0));
            ask("faults", g -> g.faults(m, 0, -2 - n), due.faults(m, 0, -2 - n));
        }
    }

    private void askRuns() {
        for (int i = 0; i < 20 * 6; i++) {
            long seed = i / 6;
            int what = i % 6;
            ask("run", g -> g.run(seed, what), due.run(seed, what));
            if (what == 0) ask("holds", g -> g.holds(seed) ? 1 : 0, 1);
        }
    }

    private void refuse() {
        ask("a 17th type", g -> g.type(0, -1), CallGraphs.ROOM);
        ask("a 161st OP", g -> g.op(47, 7, 0, 0), due.op(47, 7, 0, 0));
        ask("types as before", g -> g.count(0), 16);
        ask("OPS as before", g -> g.count(2), 160);
    }
}
