import java.util.Random;

/** Drawn programs, told and asked at the same time of the class and of the oracle: all promises, right and wrong inputs. */
public final class OracleTest {
    private static final int OBJECTS = 600, CALLS = 512;

    private final Check check;
    private final Random random;
    private final int types;
    private final int members;
    private final CallGraphs mine = new CallGraphs();
    private final Oracle due = new Oracle();

    private OracleTest(Check check, long seed) {
        this.check = check;
        random = new Random(seed);
        types = 1 + random.nextInt(18);
        members = 1 + random.nextInt(50);
    }

    public static void main(String[] args) {
        Check check = new Check("OracleTest");
        for (int seed = 0; seed < OBJECTS && !check.failed(); seed++) new OracleTest(check, seed).play();
        check.end();
    }

    private void play() {
        for (int i = 0; i < types / 2; i++) type();
        int telling = CALLS * (2 + random.nextInt(3)) / 5;
        for (int i = types / 2; i < CALLS && !check.failed(); i++) {
            if (i < telling ? random.nextInt(8) > 0 : random.nextInt(12) == 0) tell();
            else ask();
        }
    }

    /** Of n numbers one, now and then one that is wrong. */
    private int one(int n) {
        if (random.nextInt(25) > 0) return random.nextInt(Math.max(1, n));
        int[] wrong = {-1, -2, n, n + 1, 99, Integer.MIN_VALUE, Integer.MAX_VALUE};
        return wrong[random.nextInt(wrong.length)];
    }

    private int aType() {
        return one(due.count(0));
    }

    private int aMember() {
        return one(due.count(1));
    }

    private void tell() {
        int what = random.nextInt(20);
        if (what < 1 + types / 6) type();
        else if (what < 6) face();
        else if (what < 12) member();
        else if (what < 19) op();
        else root();
    }

    private void type() {
        int kind = one(3);
        int above = kind == 2 || random.nextInt(3) == 0 ? -1 : aType();
        if (due.count(0) >= types && random.nextInt(4) > 0) return;
        check.due("type(" + kind + ", " + above + ")", mine.type(kind, above), due.type(kind, above));
    }

    private void face() {
        int t = aType();
        int f = random.nextBoolean() ? aType() : one(Math.max(1, t));
        check.due("face(" + t + ", " + f + ")", mine.face(t, f), due.face(t, f));
    }

    private void member() {
        if (due.count(1) >= members && random.nextInt(4) > 0) return;
        int t = aType();
        int name = random.nextInt(3) > 0 ? random.nextInt(3) : random.nextInt(4) == 0 ? 9 : one(10);
        int sort = random.nextInt(3) > 0 ? random.nextInt(2) : one(5);
        check.due("member(" + t + ", " + name + ", " + sort + ")", mine.member(t, name, sort), due.member(t, name, sort));
    }

    private void op() {
        int m = aMember();
        int kind = one(8);
        int a = kind < 5 ? aType() : one(4);
        int b = kind == 5 ? aMember() : random.nextBoolean() ? random.nextInt(3) : one(10);
        check.due("op(" + m + ", " + kind + ", " + a + ", " + b + ")", mine.op(m, kind, a, b), due.op(m, kind, a, b));
    }

    private void root() {
        int m = aMember();
        boolean is = random.nextInt(3) > 0;
        check.due("root(" + m + ", " + is + ")", mine.root(m, is), due.root(m, is));
    }

    private void ask() {
        switch (random.nextInt(9)) {
            case 0, 1 -> askTypes();
            case 2, 3, 4, 5 -> askGraph();
            case 6 -> {
                int what = one(10);
                check.due("count(" + what + ")", mine.count(what), due.count(what));
            }
            default -> askRuns();
        }
    }

    private void askTypes() {
        int t = aType();
        int c = aType();
        int name = random.nextBoolean() ? random.nextInt(3) : one(10);
        switch (random.nextInt(3)) {
            case 0 -> check.due("under(" + c + ", " + t + ")", mine.under(c, t), due.under(c, t));
            case 1 -> check.due("found(" + t + ", " + name + ")", mine.found(t, name), due.found(t, name));
            default -> check.due("chosen(" + c + ", " + t + ", " + name + ")", mine.chosen(c, t, name), due.chosen(c, t, name));
        }
    }

    private void askGraph() {
        int m = aMember();
        int op = one(5);
        int i = one(4);
        switch (random.nextInt(6)) {
            case 0 -> {
                int what = one(5);
                check.due("about(" + m + ", " + what + ")", mine.about(m, what), due.about(m, what));
            }
            case 1 -> {
                int t = aType();
                int what = one(2);
                check.due("made(" + t + ", " + what + ")", mine.made(t, what), due.made(t, what));
            }
            case 2 -> check.due("callee(" + m + ", " + op + ", " + i + ")", mine.callee(m, op, i), due.callee(m, op, i));
            case 3 -> {
                int kind = -2 - one(4);
                check.due("faults(" + m + ", " + op + ", " + kind + ")", mine.faults(m, op, kind), due.faults(m, op, kind));
            }
            case 4 -> check.due("caller(" + m + ", " + i + ")", mine.caller(m, i), due.caller(m, i));
            default -> check.due("way(" + m + ", " + i + ")", mine.way(m, i), due.way(m, i));
        }
    }

    private void askRuns() {
        long seed = random.nextBoolean() ? random.nextInt(100) : random.nextLong();
        int what = one(6);
        if (random.nextInt(4) == 0) check.due("holds(" + seed + ")", mine.holds(seed), due.holds(seed));
        else check.due("run(" + seed + ", " + what + ")", mine.run(seed, what), due.run(seed, what));
    }
}
