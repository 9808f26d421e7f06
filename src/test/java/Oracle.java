import java.util.ArrayList;
import java.util.List;
import java.util.Set;
import java.util.TreeMap;
import java.util.TreeSet;

/**
 * The document once more, sentence by sentence and without thrift: lists and sets, nothing kept between calls.
 * Tests ask it what is due.
 */
final class Oracle {
    private static final int NONE = -1, MISSING = -2, UNLIKE = -3, BARE = -4, CLASH = -5,
            UNKNOWN = -101, OUTSIDE = -102, STATE = -103, ROOM = -104;

    private static final class Type {
        int kind;
        int above;
        final List<Integer> faces = new ArrayList<>();
    }

    private static final class Member {
        int type;
        int name;
        int sort;
        boolean root;
        final List<int[]> ops = new ArrayList<>();
    }

    private final List<Type> types = new ArrayList<>();
    private final List<Member> members = new ArrayList<>();

    // ---- telling

    int type(int kind, int above) {
        if (above != NONE && !isType(above)) return UNKNOWN;
        if (kind < 0 || kind > 2) return OUTSIDE;
        if (kind == 2 && above != NONE) return OUTSIDE;
        if (above != NONE && types.get(above).kind == 2) return OUTSIDE;
        if (types.size() == 16) return ROOM;
        Type t = new Type();
        t.kind = kind;
        t.above = above;
        types.add(t);
        return types.size() - 1;
    }

    int face(int type, int face) {
        if (!isType(type) || !isType(face)) return UNKNOWN;
        if (types.get(face).kind != 2 || face >= type) return OUTSIDE;
        List<Integer> faces = types.get(type).faces;
        if (faces.contains(face)) return STATE;
        if (faces.size() == 3) return ROOM;
        faces.add(face);
        return faces.size();
    }

    int member(int type, int name, int sort) {
        if (!isType(type)) return UNKNOWN;
        if (sort < 0 || sort > 4) return OUTSIDE;
        if (sort != 4 && (name < 0 || name > 9)) return OUTSIDE;
        if (sort == 1 && types.get(type).kind == 0) return OUTSIDE;
        for (Member m : members) {
            if (m.type != type) continue;
            if (sort == 4 ? m.sort == 4 : m.sort != 4 && m.name == name) return STATE;
        }
        if (members.size() == 48) return ROOM;
        Member m = new Member();
        m.type = type;
        m.name = sort == 4 ? NONE : name;
        m.sort = sort;
        members.add(m);
        return members.size() - 1;
    }

    int op(int member, int kind, int a, int b) {
        if (!isMember(member)) return UNKNOWN;
        if (kind >= 0 && kind <= 4 && !isType(a)) return UNKNOWN;
        if (kind == 5 && !isMember(b)) return UNKNOWN;
        if (kind < 0 || kind > 7) return OUTSIDE;
        if (kind == 0 && types.get(a).kind != 0) return OUTSIDE;
        if ((kind == 1 || kind == 2 || kind == 3 || kind == 7) && (b < 0 || b > 9)) return OUTSIDE;
        Member m = members.get(member);
        Type own = types.get(m.type);
        if (kind == 2 && own.above != a && !own.faces.contains(a)) return OUTSIDE;
        if ((kind == 5 || kind == 6) && (a < 0 || a > 3)) return OUTSIDE;
        if (kind == 5 && (members.get(b).sort == 1 || members.get(b).sort == 4)) return OUTSIDE;
        if (m.sort == 1) return STATE;
        if (m.ops.size() == 24 || count(2) == 160) return ROOM;
        m.ops.add(new int[] {kind, a, b});
        return m.ops.size() - 1;
    }

    int root(int member, boolean is) {
        if (!isMember(member)) return UNKNOWN;
        Member m = members.get(member);
        if (m.sort == 1 || m.sort == 4) return OUTSIDE;
        int isNew = m.root == is ? 0 : 1;
        m.root = is;
        return isNew;
    }

    // ---- types and names

    private boolean isType(int t) {
        return t >= 0 && t < types.size();
    }

    private boolean isMember(int m) {
        return m >= 0 && m < members.size();
    }

    private Set<Integer> above(int t) {
        Set<Integer> set = new TreeSet<>();
        List<Integer> next = new ArrayList<>(types.get(t).faces);
        if (types.get(t).above != NONE) next.add(types.get(t).above);
        for (int n : next) {
            set.add(n);
            set.addAll(above(n));
        }
        return set;
    }

    private boolean isUnder(int t, int other) {
        return t == other || above(t).contains(other);
    }

    private List<Integer> left(int t, int name) {
        List<Integer> all = new ArrayList<>();
        for (int m = 0; m < members.size(); m++) {
            Member x = members.get(m);
            boolean sorts = x.sort == 0 || x.sort == 1;
            if (x.name == name && sorts && types.get(x.type).kind == 2 && above(t).contains(x.type)) all.add(m);
        }
        List<Integer> left = new ArrayList<>();
        for (int m : all) {
            boolean hidden = false;
            for (int other : all) {
                int face = members.get(m).type;
                int otherFace = members.get(other).type;
                if (otherFace != face && isUnder(otherFace, face)) hidden = true;
            }
            if (!hidden) left.add(m);
        }
        return left;
    }

    private List<Integer> plainOf(List<Integer> some) {
        List<Integer> plain = new ArrayList<>();
        for (int m : some) {
            if (members.get(m).sort == 0) plain.add(m);
        }
        return plain;
    }

    private int find(int t, int name) {
        for (int at = t; at != NONE; at = types.get(at).above) {
            for (int m = 0; m < members.size(); m++) {
                if (members.get(m).type == at && members.get(m).name == name) return m;
            }
        }
        List<Integer> left = left(t, name);
        List<Integer> plain = plainOf(left);
        if (plain.size() == 1) return plain.get(0);
        return left.isEmpty() ? NONE : left.get(0);
    }

    private int choose(int c, int t, int name) {
        int f = find(t, name);
        if (f == NONE) return MISSING;
        if (members.get(f).sort == 2) return UNLIKE;
        if (members.get(f).sort == 3) return f;
        for (int at = c; at != NONE; at = types.get(at).above) {
            for (int m = 0; m < members.size(); m++) {
                Member x = members.get(m);
                if (x.type == at && x.name == name && x.sort == 0) return m;
                if (x.type == at && x.name == name && x.sort == 1) return BARE;
            }
        }
        List<Integer> plain = plainOf(left(c, name));
        if (plain.isEmpty()) return BARE;
        return plain.size() == 1 ? plain.get(0) : CLASH;
    }

    private int chooseStatic(int t, int name) {
        int f = find(t, name);
        if (f == NONE) return MISSING;
        return members.get(f).sort == 2 ? f : UNLIKE;
    }

    private int startOf(int t) {
        for (int m = 0; m < members.size(); m++) {
            if (members.get(m).type == t && members.get(m).sort == 4) return m;
        }
        return NONE;
    }

    private List<Integer> facesToBegin(int t) {
        List<Integer> faces = new ArrayList<>();
        for (int f : above(t)) {
            boolean plain = false;
            for (Member m : members) plain |= m.type == f && m.sort == 0;
            if (types.get(f).kind == 2 && plain) faces.add(f);
        }
        return faces;
    }

    private List<Integer> tellsAny(int name) {
        List<Integer> some = new ArrayList<>();
        for (int m = 0; m < members.size(); m++) {
            Member x = members.get(m);
            if (x.name == name && (x.sort == 0 || x.sort == 2 || x.sort == 3)) some.add(m);
        }
        return some;
    }

    // ---- the graph

    private final class Net {
        final Set<Integer> reached = new TreeSet<>();
        final Set<Integer> made = new TreeSet<>();
        final Set<Integer> begun = new TreeSet<>();
        final List<Set<Integer>> bags = new ArrayList<>();
        /** By member * 24 + op. */
        final TreeMap<Integer, Set<Integer>> callees = new TreeMap<>();

        Net() {
            for (int i = 0; i < 4; i++) bags.add(new TreeSet<>());
            for (int m = 0; m < members.size(); m++) {
                if (members.get(m).root) reached.add(m);
            }
            String before = "";
            while (!before.equals(asText())) {
                before = asText();
                for (int m : new ArrayList<>(reached)) {
                    for (int k = 0; k < members.get(m).ops.size(); k++) apply(m, k);
                }
            }
        }

        private String asText() {
            return reached + "/" + made + "/" + begun + "/" + bags + "/" + callees;
        }

        private void apply(int m, int k) {
            int[] o = members.get(m).ops.get(k);
            Set<Integer> to = callees.computeIfAbsent(m * 24 + k, x -> new TreeSet<>());
            if (o[0] == 0) {
                made.add(o[1]);
                begin(o[1], to);
            }
            if (o[0] == 1 || o[0] == 4) {
                for (int c : made) {
                    if (isUnder(c, o[1])) to.add(choose(c, o[1], o[0] == 4 ? 9 : o[2]));
                }
            }
            if (o[0] == 2) to.add(choose(o[1], o[1], o[2]));
            if (o[0] == 3) {
                int f = chooseStatic(o[1], o[2]);
                to.add(f);
                if (f >= 0) begin(members.get(f).type, to);
            }
            if (o[0] == 5) bags.get(o[1]).add(o[2]);
            if (o[0] == 6) to.addAll(bags.get(o[1]));
            if (o[0] == 7) to.addAll(tellsAny(o[2]));
            to.removeIf(x -> x < 0);
            reached.addAll(to);
        }

        private void begin(int t, Set<Integer> to) {
            begun.add(t);
            to.add(startOf(t));
            if (types.get(t).kind == 2) return;
            if (types.get(t).above != NONE) begin(types.get(t).above, to);
            for (int f : facesToBegin(t)) begin(f, to);
        }

        Set<Integer> calleesOf(int m, int k) {
            return callees.getOrDefault(m * 24 + k, new TreeSet<>());
        }

        Set<Integer> calledBy(int m) {
            Set<Integer> set = new TreeSet<>();
            for (int k = 0; k < members.get(m).ops.size(); k++) set.addAll(calleesOf(m, k));
            return set;
        }

        Set<Integer> comesTo(int m) {
            Set<Integer> set = new TreeSet<>(calledBy(m));
            List<Integer> open = new ArrayList<>(set);
            for (int i = 0; i < open.size(); i++) {
                for (int n : calledBy(open.get(i))) {
                    if (set.add(n)) open.add(n);
                }
            }
            return set;
        }

        List<Integer> ring(int m) {
            List<Integer> ring = new ArrayList<>();
            for (int n : comesTo(m)) {
                if (comesTo(n).contains(m)) ring.add(n);
            }
            return ring;
        }

        List<Integer> callers(int m) {
            List<Integer> some = new ArrayList<>();
            for (int n = 0; n < members.size(); n++) {
                if (calledBy(n).contains(m)) some.add(n);
            }
            return some;
        }

        int faults(int m, int k, int kind) {
            if (!reached.contains(m)) return 0;
            int[] o = members.get(m).ops.get(k);
            if (o[0] == 2) return choose(o[1], o[1], o[2]) == kind ? 1 : 0;
            if (o[0] == 3) return chooseStatic(o[1], o[2]) == kind ? 1 : 0;
            if (o[0] != 1 && o[0] != 4) return 0;
            int n = 0;
            for (int c : made) {
                if (isUnder(c, o[1]) && choose(c, o[1], o[0] == 4 ? 9 : o[2]) == kind) n++;
            }
            return n > 0 && (kind == MISSING || kind == UNLIKE) ? 1 : n;
        }

        /** The least row of the fewest members to each member, layer by layer from the roots. */
        List<Integer> way(int end) {
            TreeMap<Integer, List<Integer>> best = new TreeMap<>();
            TreeMap<Integer, List<Integer>> layer = new TreeMap<>();
            for (int m = 0; m < members.size(); m++) {
                if (members.get(m).root) layer.put(m, List.of(m));
            }
            while (!layer.isEmpty()) {
                best.putAll(layer);
                TreeMap<Integer, List<Integer>> next = new TreeMap<>();
                for (List<Integer> row : layer.values()) {
                    for (int n : calledBy(row.get(row.size() - 1))) {
                        if (best.containsKey(n)) continue;
                        List<Integer> longer = new ArrayList<>(row);
                        longer.add(n);
                        if (!next.containsKey(n) || isLess(longer, next.get(n))) next.put(n, longer);
                    }
                }
                layer = next;
            }
            return best.getOrDefault(end, List.of());
        }
    }

    private static boolean isLess(List<Integer> row, List<Integer> other) {
        for (int i = 0; i < row.size(); i++) {
            int c = Integer.compare(row.get(i), other.get(i));
            if (c != 0) return c < 0;
        }
        return false;
    }

    private static int at(Iterable<Integer> row, int i) {
        int n = 0;
        for (int x : row) {
            if (n == i) return x;
            n++;
        }
        return NONE;
    }

    // ---- asking

    int count(int what) {
        if (what < 0 || what > 9) return OUTSIDE;
        if (what == 0) return types.size();
        if (what == 1) return members.size();
        Net net = what > 3 ? new Net() : null;
        if (what == 4) return net.reached.size();
        if (what == 5) return net.made.size();
        if (what == 6) return net.begun.size();
        int n = 0;
        for (int m = 0; m < members.size(); m++) {
            if (what == 3 && members.get(m).root) n++;
            if (what == 9 && net.comesTo(m).contains(m)) n++;
            for (int k = 0; k < members.get(m).ops.size(); k++) {
                if (what == 2) n++;
                if (what == 7) n += net.calleesOf(m, k).size();
                for (int kind = -5; what == 8 && kind <= -2; kind++) n += net.faults(m, k, kind);
            }
        }
        return n;
    }

    int under(int type, int other) {
        if (!isType(type) || !isType(other)) return UNKNOWN;
        return isUnder(type, other) ? 1 : 0;
    }

    int found(int type, int name) {
        if (!isType(type)) return UNKNOWN;
        return name < 0 || name > 9 ? OUTSIDE : find(type, name);
    }

    int chosen(int c, int type, int name) {
        if (!isType(c) || !isType(type)) return UNKNOWN;
        return name < 0 || name > 9 || !isUnder(c, type) ? OUTSIDE : choose(c, type, name);
    }

    int about(int member, int what) {
        if (!isMember(member)) return UNKNOWN;
        if (what < 0 || what > 4) return OUTSIDE;
        Net net = new Net();
        if (what == 0) return net.reached.contains(member) ? 1 : 0;
        if (what == 1) return net.comesTo(member).contains(member) ? 1 : 0;
        if (what == 2) return net.callers(member).size();
        return what == 3 ? net.ring(member).size() : at(net.ring(member), 0);
    }

    int made(int type, int what) {
        if (!isType(type)) return UNKNOWN;
        if (what < 0 || what > 1) return OUTSIDE;
        Net net = new Net();
        return (what == 0 ? net.made : net.begun).contains(type) ? 1 : 0;
    }

    int callee(int member, int op, int i) {
        if (!isMember(member) || op < 0 || op >= members.get(member).ops.size()) return UNKNOWN;
        return at(new Net().calleesOf(member, op), i);
    }

    int faults(int member, int op, int kind) {
        if (!isMember(member) || op < 0 || op >= members.get(member).ops.size()) return UNKNOWN;
        return kind < -5 || kind > -2 ? OUTSIDE : new Net().faults(member, op, kind);
    }

    int caller(int member, int i) {
        return isMember(member) ? at(new Net().callers(member), i) : UNKNOWN;
    }

    int way(int member, int i) {
        return isMember(member) ? at(new Net().way(member), i) : UNKNOWN;
    }

    // ---- runs

    private final class Play {
        long x;
        int steps;
        int left;
        int latest = NONE;
        final Set<Integer> ran = new TreeSet<>();
        final Set<Integer> begun = new TreeSet<>();
        final List<Integer> pool = new ArrayList<>();
        final List<List<Integer>> bags = new ArrayList<>();
        int open;

        Play(long seed) {
            x = seed;
            for (int i = 0; i < 4; i++) bags.add(new ArrayList<>());
            for (int m = 0; m < members.size(); m++) {
                if (members.get(m).root) go(m);
            }
        }

        private int draw(int n) {
            x = x * 6364136223846793005L + 1442695040888963407L;
            return (int) ((x >>> 33) % n);
        }

        private void go(int m) {
            if (m < 0) return;
            if (open == 12 || steps == 300) {
                left++;
                return;
            }
            open++;
            steps++;
            ran.add(m);
            latest = m;
            for (int[] o : members.get(m).ops) {
                if (draw(4) != 0) act(o);
            }
            open--;
        }

        private void act(int[] o) {
            if (o[0] == 0) {
                begin(o[1]);
                if (pool.size() < 20) pool.add(o[1]);
            }
            if (o[0] == 1 || o[0] == 4) {
                List<Integer> some = new ArrayList<>();
                for (int c : pool) {
                    if (isUnder(c, o[1])) some.add(c);
                }
                if (!some.isEmpty()) go(choose(some.get(draw(some.size())), o[1], o[0] == 4 ? 9 : o[2]));
            }
            if (o[0] == 2) go(choose(o[1], o[1], o[2]));
            if (o[0] == 3) {
                int f = chooseStatic(o[1], o[2]);
                if (f >= 0) begin(members.get(f).type);
                go(f);
            }
            if (o[0] == 5 && !bags.get(o[1]).contains(o[2])) bags.get(o[1]).add(o[2]);
            List<Integer> some = o[0] == 6 ? bags.get(o[1]) : o[0] == 7 ? tellsAny(o[2]) : List.of();
            if (!some.isEmpty()) go(some.get(draw(some.size())));
        }

        private void begin(int t) {
            if (!begun.add(t)) return;
            if (types.get(t).kind != 2) {
                if (types.get(t).above != NONE) begin(types.get(t).above);
                for (int f : facesToBegin(t)) begin(f);
            }
            go(startOf(t));
        }
    }

    int run(long seed, int what) {
        if (what < 0 || what > 5) return OUTSIDE;
        Play p = new Play(seed);
        int[] answers = {p.steps, p.ran.size(), p.pool.size(), p.begun.size(), p.left, p.latest};
        return answers[what];
    }

    boolean holds(long seed) {
        return true;
    }
}
