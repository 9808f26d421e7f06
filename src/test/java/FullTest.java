import java.util.ArrayList;
import java.util.List;
import java.util.Random;
import java.util.function.ToIntFunction;

/**
 * Programs in which no room is left (16 types, 48 members, 160 OPS), asked everything; the oracle tells what is due.
 * Each program is told to several objects, as one takes 512 calls at most.
 */
public final class FullTest {
    private static final int PROGRAMS = 12, CALLS = 512, FAR_OFF = 400;
    private static final int[] FAR = {Integer.MIN_VALUE, -106, -6, -5, -2, -1, 0, 1, 2, 3, 4, 8, 9, 10, 15, 16, 23, 24, 47, 48, 63, 64,
        Integer.MAX_VALUE};

    private final Check check;
    private final Random random;
    private final Oracle due = new Oracle();
    private final List<ToIntFunction<CallGraphs>> told = new ArrayList<>();
    private CallGraphs mine;
    private int callsLeft;

    private FullTest(Check check, long seed) {
        this.check = check;
        random = new Random(seed);
    }

    public static void main(String[] args) {
        Check check = new Check("FullTest");
        for (int seed = 0; seed < PROGRAMS; seed++) {
            FullTest test = new FullTest(check, seed);
            test.fill();
            test.askTypes();
            test.askMembers();
            test.askRuns();
            test.refuse();
            test.askFarOff();
        }
        check.end();
    }

    /** Only what the oracle takes is told, so that calls are left to ask. */
    private void tell(int answer, ToIntFunction<CallGraphs> call) {
        if (answer >= 0) told.add(call);
    }

    private void fill() {
        while (due.count(0) < 16) {
            int kind = random.nextInt(3);
            int above = kind == 2 || random.nextInt(4) == 0 ? -1 : random.nextInt(due.count(0) + 1);
            tell(due.type(kind, above), g -> g.type(kind, above));
        }
        for (int i = 0; i < 60; i++) {
            int t = random.nextInt(16);
            int f = random.nextInt(16);
            tell(due.face(t, f), g -> g.face(t, f));
        }
        for (int i = 0; due.count(1) < 48; i++) {
            int name = random.nextInt(3) > 0 ? random.nextInt(3) : random.nextInt(10);
            int t = random.nextInt(16);
            int sort = i % 5;
            tell(due.member(t, name, sort), g -> g.member(t, name, sort));
        }
        while (due.count(2) < 160) {
            int kind = random.nextInt(8);
            int m = random.nextInt(48);
            int a = random.nextInt(kind < 5 ? 16 : 4);
            int b = random.nextInt(kind == 5 ? 48 : 10);
            tell(due.op(m, kind, a, b), g -> g.op(m, kind, a, b));
        }
        for (int i = 0; i < 6; i++) {
            int m = random.nextInt(48);
            tell(due.root(m, true), g -> g.root(m, true));
        }
    }

    private void ask(String what, ToIntFunction<CallGraphs> call, int answer) {
        if (callsLeft == 0) {
            mine = new CallGraphs();
            for (ToIntFunction<CallGraphs> one : told) one.applyAsInt(mine);
            callsLeft = CALLS - told.size();
        }
        callsLeft--;
        check.due(what, call.applyAsInt(mine), answer);
    }

    private void askTypes() {
        for (int i = 0; i < 16 * 16; i++) {
            int t = i / 16;
            int c = i % 16;
            ask("under", g -> g.under(c, t), due.under(c, t));
            if (c < 10) ask("found", g -> g.found(t, c), due.found(t, c));
            if (c < 2) ask("made", g -> g.made(t, c), due.made(t, c));
            for (int n = 0; n < 3; n++) {
                int name = n;
                ask("chosen", g -> g.chosen(c, t, name), due.chosen(c, t, name));
            }
        }
        for (int i = 0; i < 10; i++) {
            int what = i;
            ask("count", g -> g.count(what), due.count(what));
        }
    }

    private void askMembers() {
        for (int i = 0; i < 48 * 5; i++) {
            int m = i / 5;
            int n = i % 5;
            ask("about", g -> g.about(m, n), due.about(m, n));
            ask("way", g -> g.way(m, n), due.way(m, n));
            ask("caller", g -> g.caller(m, n), due.caller(m, n));
            ask("callee", g -> g.callee(m, n, 0), due.callee(m, n, 0));
            ask("faults", g -> g.faults(m, 0, -2 - n), due.faults(m, 0, -2 - n));
        }
    }

    private void askRuns() {
        for (int i = 0; i < 20 * 6; i++) {
            long seed = i / 6;
            int what = i % 6;
            ask("run", g -> g.run(seed, what), due.run(seed, what));
            if (what == 0) ask("holds", g -> g.holds(seed) ? 1 : 0, 1);
        }
    }

    private void refuse() {
        ask("a 17th type", g -> g.type(0, -1), CallGraphs.ROOM);
        ask("a 161st OP", g -> g.op(47, 7, 0, 0), due.op(47, 7, 0, 0));
        ask("types as before", g -> g.count(0), 16);
        ask("OPS as before", g -> g.count(2), 160);
    }

    /** Numbers at the edges and far off, in every place of every call. */
    private void askFarOff() {
        for (int i = 0; i < FAR_OFF; i++) {
            int a = far();
            int b = far();
            int c = far();
            int d = far();
            switch (random.nextInt(17)) {
                case 0 -> change("type", g -> g.type(a, b), due.type(a, b));
                case 1 -> change("face", g -> g.face(a, b), due.face(a, b));
                case 2 -> change("member", g -> g.member(a, b, c), due.member(a, b, c));
                case 3 -> change("op", g -> g.op(a, b, c, d), due.op(a, b, c, d));
                case 4 -> change("root", g -> g.root(a, b > 0), due.root(a, b > 0));
                case 5 -> ask("count", g -> g.count(a), due.count(a));
                case 6 -> ask("under", g -> g.under(a, b), due.under(a, b));
                case 7 -> ask("found", g -> g.found(a, b), due.found(a, b));
                case 8 -> ask("chosen", g -> g.chosen(a, b, c), due.chosen(a, b, c));
                case 9 -> ask("about", g -> g.about(a, b), due.about(a, b));
                case 10 -> ask("made", g -> g.made(a, b), due.made(a, b));
                case 11 -> ask("callee", g -> g.callee(a, b, c), due.callee(a, b, c));
                case 12 -> ask("faults", g -> g.faults(a, b, c), due.faults(a, b, c));
                case 13 -> ask("caller", g -> g.caller(a, b), due.caller(a, b));
                case 14 -> ask("way", g -> g.way(a, b), due.way(a, b));
                case 15 -> ask("run", g -> g.run(a, b), due.run(a, b));
                default -> ask("holds", g -> g.holds(a) ? 1 : 0, 1);
            }
        }
    }

    private int far() {
        return FAR[random.nextInt(FAR.length)];
    }

    private void change(String what, ToIntFunction<CallGraphs> call, int answer) {
        ask(what, call, answer);
        tell(answer, call);
    }
}
