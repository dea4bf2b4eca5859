import java.util.ArrayDeque;
import java.util.ArrayList;
import java.util.HashMap;
import java.util.HashSet;
import java.util.IdentityHashMap;
import java.util.List;
import java.util.Map;
import java.util.Set;

/**
 * Long runs of drawn calls, each answer compared with that of a slow model below, which was
 * written from the document alone: types are linked nodes, questions are asked by recursion.
 */
public final class ModelRuns {
    private static final int RUNS = 1500;
    private static final int CALLS = 511;
    private static long luck;
    private static int wrong;
    private static final Map<String, Integer> answers = new HashMap<>();

    private static int below(int n) {
        luck = luck * 6364136223846793005L + 1442695040888963407L;
        return (int) ((luck >>> 33) % n);
    }

    private static boolean oneIn(int n) {
        return below(n) == 0;
    }

    public static void main(String[] args) {
        for (int run = 0; run < RUNS && wrong < 20; run++) {
            luck = 7919L * run + 13;
            below(2);
            play(run);
        }
        checkSeen();
        if (args.length > 0) {
            new java.util.TreeMap<>(answers).forEach((what, often) -> System.out.println(what + ": " + often));
        }
        System.out.println(wrong == 0 ? "model: all answers are as due" : "model: " + wrong + " answers are not as due");
        if (wrong != 0) {
            System.exit(1);
        }
    }

    /** The runs are worth nothing if they never meet what they are to compare. */
    private static void checkSeen() {
        String[] due = {"read ok", "read fault", "read FULL", "type FULL", "make FULL", "bound FULL", "swap FULL",
            "cut FULL", "part NO", "back NO", "apart -5", "apart -6", "apart -10", "apart 0", "apart 1", "under 0",
            "under 1", "near 0", "near 1", "alike 1", "alike 0", "filled 0", "filled 1", "least NONE", "least 1000000",
            "heads NONE", "heads 1000000", "way NONE", "deep NONE", "signs 0", "signs 1", "signs 2", "signs 3"};
        for (String one : due) {
            if (!answers.containsKey(one)) {
                wrong++;
                System.out.println("no run met: " + one);
            }
        }
    }

    private static void play(int run) {
        LoopTypes program = new LoopTypes();
        Model model = new Model();
        int style = below(4);
        ArrayDeque<int[]> planned = new ArrayDeque<>();
        for (int call = 0; call < CALLS; call++) {
            if (planned.isEmpty()) {
                plan(planned, style);
            }
            int[] next = planned.poll();
            long got = program(program, next);
            long due = model(model, next);
            note(next[0], due);
            if (got != due) {
                wrong++;
                System.out.println("run " + run + " call " + call + ": " + told(next) + " answered " + got + ", due is " + due);
                return;
            }
            if (call % 8 == 0 && program.digest() != model.digest()) {
                wrong++;
                System.out.println("run " + run + " call " + call + ": digest behind " + told(next));
                return;
            }
        }
    }

    private static final String[] CALL_NAMES = {"type", "clear", "read", "order", "under", "alike", "apart", "near",
        "shared", "way", "size", "head", "code", "deep", "heads", "many", "looping", "filled", "least", "signs", "base",
        "make", "part", "copy", "bound", "swap", "cut", "turn", "draw", "back", "told", "digest"};

    private static String told(int[] call) {
        StringBuilder text = new StringBuilder(CALL_NAMES[call[0]]).append('(');
        for (int at = 1; at < call.length; at++) {
            text.append(at > 1 ? ", " : "").append(call[at]);
        }
        return text.append(')').toString();
    }

    private static void note(int call, long answer) {
        String name = CALL_NAMES[call];
        String what = answer == -4 ? "FULL" : answer == -3 ? "NO" : answer == -1 ? "NONE" : Long.toString(answer);
        if (call == 2 && answer != -4) {
            what = answer <= -10 ? "fault" : "ok";
        }
        answers.merge(name + " " + what, 1, Integer::sum);
    }

    private static int name() {
        return oneIn(60) ? (oneIn(2) ? 8 : -1) : below(8);
    }

    private static int from(int low, int high) {
        return oneIn(40) ? (oneIn(2) ? low - 1 : high + 1) : low + below(high - low + 1);
    }

    private static void plan(ArrayDeque<int[]> planned, int style) {
        int kind = below(100);
        if (style == 3 ? kind < 30 : kind < 4) {
            planText(planned);
        } else if (kind == 40 && oneIn(2)) {
            planTower(planned);
        } else if (kind == 41) {
            planLarge(planned);
        } else if (kind == 42) {
            planChains(planned);
        } else if (kind < 55) {
            planned.add(newType(style));
        } else if (kind < 96) {
            planned.add(question());
        } else {
            int[][] rest = {{3, from(0, 4)}, {29}, {30, from(0, 6)}, {0, from(0, 127)}, {29}, {31}, {1}};
            planned.add(rest[below(rest.length)]);
        }
    }

    /** Types as large as they may be, with more heads than are counted. */
    private static void planTower(ArrayDeque<int[]> planned) {
        int at = below(8);
        int high = 15 + below(28);
        planned.add(new int[] {20, below(4), at});
        for (int floor = 0; floor < high; floor++) {
            planned.add(new int[] {21, oneIn(20) ? 4 + below(3) : 5, at, at, at});
        }
        planned.add(new int[] {14, at});
        planned.add(new int[] {18, at});
        planned.add(new int[] {13, at});
        String text = "a=[[b]];c=a*d;";
        planned.add(new int[] {1});
        for (int i = 0; i < text.length(); i++) {
            char c = text.charAt(i);
            planned.add(new int[] {0, c >= 'a' && c <= 'h' ? 'a' + (c - 'a' + at + 7) % 8 : c});
        }
        planned.add(new int[] {2});
    }

    /** Two loops of unlike lengths, which meet anew for a long time. */
    private static void planChains(ArrayDeque<int[]> planned) {
        StringBuilder text = new StringBuilder();
        char by = oneIn(3) ? '>' : '*';
        int seldom = 2 + below(9);
        for (char name = 'a'; name < 'c'; name++) {
            int length = 3 + below(9);
            text.append(name).append('=');
            for (int at = 0; at < length; at++) {
                text.append(oneIn(seldom) ? '2' : '1').append(oneIn(20) ? '*' : by).append('(');
            }
            text.append(name).append(")".repeat(length)).append(';');
        }
        planned.add(new int[] {1});
        for (int at = 0; at < text.length(); at++) {
            planned.add(new int[] {0, text.charAt(at)});
        }
        planned.add(new int[] {2});
        if (oneIn(3)) {
            planned.add(new int[] {27, below(2), 6, below(2)});
        }
        int[][] calls = {{24, 0, 0, 1, 2}, {24, 1, 0, 1, 3}, {4, 0, 1}, {4, 1, 0}, {6, 0, 1, -1}, {6, 1, 0, -1},
            {7, 0, 1, 1 + below(30)}, {6, 2, 0, -1}, {6, 0, 3, -1}, {6, 0, 1, below(30)}, {6, 1, 0, below(30)}};
        planned.addAll(List.of(calls));
    }

    /** Most drawn types are small: this seeks one of at least ten unlike types. */
    private static int wideSeed() {
        LoopTypes probe = new LoopTypes();
        for (int tries = 0; tries < 500; tries++) {
            int seed = below(1000000);
            if (probe.draw(seed, 12, 0) >= 10) {
                return seed;
            }
        }
        return 0;
    }

    /** Types that bounds, cuts and swaps make large, above SIZE 40 too. */
    private static void planLarge(ArrayDeque<int[]> planned) {
        int a = below(8);
        int b = below(8);
        for (int pairs = 0; pairs < 3; pairs++) {
            planned.add(new int[] {28, wideSeed(), 12, a});
            planned.add(new int[] {28, wideSeed(), 12, b});
            planned.add(new int[] {24, below(2), a, b, below(8)});
            planned.add(new int[] {24, below(2), a, b, b});
            planned.add(new int[] {24, below(2), a, b, a});
            planned.add(new int[] {26, b, 5 + below(5), below(8)});
            planned.add(new int[] {22, a, 0, b});
            planned.add(new int[] {25, below(8), b, below(8), below(8)});
        }
    }

    private static int[] newType(int style) {
        switch (below(style == 0 ? 9 : 12)) {
            case 0: return new int[] {20, from(0, 3), name()};
            case 1: return new int[] {22, name(), from(0, 1), name()};
            case 2: return new int[] {23, name(), name()};
            case 3: return new int[] {24, from(0, 1), name(), name(), name()};
            case 4: return new int[] {25, name(), name(), name(), name()};
            case 5: return oneIn(2) ? new int[] {26, name(), from(0, 9), name()} : new int[] {24, from(0, 1), name(), name(), name()};
            case 6: return new int[] {27, name(), from(5, 6), name()};
            case 7: return new int[] {28, from(0, 999999), from(1, 12), name()};
            case 8: return new int[] {28, below(1000000), oneIn(2) ? 12 : 1 + below(12), name()};
            default:
                if (oneIn(3)) {
                    int a = name();
                    return new int[] {21, from(4, 6), a, a, a};
                }
                return new int[] {21, from(4, 6), name(), name(), name()};
        }
    }

    private static int[] question() {
        int one = 4 + below(16);
        switch (one) {
            case 6: return new int[] {6, name(), name(), oneIn(2) ? -1 : from(-1, 6)};
            case 7: return new int[] {7, name(), name(), oneIn(2) ? from(0, 60) : from(0, 5)};
            case 15: return new int[] {15, name(), from(0, 6)};
            case 19: return new int[] {19, name(), name()};
            default: return one < 10 ? new int[] {one, name(), name()} : new int[] {one, name()};
        }
    }

    private static void planText(ArrayDeque<int[]> planned) {
        if (!oneIn(12)) {
            planned.add(new int[] {1});
        }
        StringBuilder text = new StringBuilder();
        int equations = 1 + below(oneIn(3) ? 8 : 4);
        int told = below(8);
        for (int at = 0; at < equations; at++) {
            text.append((char) ('a' + (oneIn(15) ? below(8) : (told + at) % 8))).append('=');
            term(text, oneIn(8) ? 6 : 3);
            text.append(';');
        }
        for (int blanks = below(4); blanks > 0; blanks--) {
            text.insert(below(text.length() + 1), ' ');
        }
        if (oneIn(3)) {
            spoil(text);
        }
        for (int at = 0; at < text.length() && at < 122; at++) {
            planned.add(new int[] {0, text.charAt(at)});
        }
        planned.add(new int[] {2});
    }

    private static void spoil(StringBuilder text) {
        String bytes = "abcdefghi01234*>[]()=; \t~A";
        int at = below(text.length());
        switch (below(3)) {
            case 0: text.setCharAt(at, bytes.charAt(below(bytes.length()))); break;
            case 1: text.insert(at, bytes.charAt(below(bytes.length()))); break;
            default: text.deleteCharAt(oneIn(2) ? at : text.length() - 1); break;
        }
    }

    private static void term(StringBuilder text, int deep) {
        int kind = deep == 0 ? below(4) : below(10);
        if (kind < 2) {
            text.append((char) ('0' + below(4)));
        } else if (kind < 5) {
            text.append((char) ('a' + below(8)));
        } else if (kind == 5) {
            text.append('[');
            term(text, deep - 1);
            text.append(']');
        } else if (kind == 6) {
            text.append('(');
            term(text, deep - 1);
            text.append(')');
        } else {
            term(text, deep - 1);
            text.append(kind == 7 ? '>' : '*');
            term(text, deep - 1);
        }
    }

    private static long program(LoopTypes x, int[] c) {
        switch (c[0]) {
            case 0: return x.type(c[1]);
            case 1: return x.clear();
            case 2: return x.read();
            case 3: return x.order(c[1]);
            case 4: return x.under(c[1], c[2]);
            case 5: return x.alike(c[1], c[2]);
            case 6: return x.apart(c[1], c[2], c[3]);
            case 7: return x.near(c[1], c[2], c[3]);
            case 8: return x.shared(c[1], c[2]);
            case 9: return x.way(c[1], c[2]);
            case 10: return x.size(c[1]);
            case 11: return x.head(c[1]);
            case 12: return x.code(c[1]);
            case 13: return x.deep(c[1]);
            case 14: return x.heads(c[1]);
            case 15: return x.many(c[1], c[2]);
            case 16: return x.looping(c[1]);
            case 17: return x.filled(c[1]);
            case 18: return x.least(c[1]);
            case 19: return x.signs(c[1], c[2]);
            case 20: return x.base(c[1], c[2]);
            case 21: return x.make(c[1], c[2], c[3], c[4]);
            case 22: return x.part(c[1], c[2], c[3]);
            case 23: return x.copy(c[1], c[2]);
            case 24: return x.bound(c[1], c[2], c[3], c[4]);
            case 25: return x.swap(c[1], c[2], c[3], c[4]);
            case 26: return x.cut(c[1], c[2], c[3]);
            case 27: return x.turn(c[1], c[2], c[3]);
            case 28: return x.draw(c[1], c[2], c[3]);
            case 29: return x.back();
            case 30: return x.told(c[1]);
            default: return x.digest();
        }
    }

    private static long model(Model x, int[] c) {
        try {
            return x.answer(CALL_NAMES[c[0]], c);
        } catch (Refused refused) {
            x.refused[-2 - refused.code]++;
            return refused.code == -2 && c[0] == 6 ? -10 : refused.code;
        }
    }

    private static final class Refused extends RuntimeException {
        private static final long serialVersionUID = 1;
        final int code;

        Refused(int code) {
            super(null, null, false, false);
            this.code = code;
        }
    }

    private static final class Fault extends RuntimeException {
        private static final long serialVersionUID = 1;
        final int at;

        Fault(int at) {
            super(null, null, false, false);
            this.at = at;
        }
    }

    private static final class Node {
        int head;
        Node[] parts;

        Node(int head) {
            this.head = head;
            parts = new Node[head < 4 ? 0 : head == 4 ? 1 : 2];
        }
    }

    /** One claim: a pair of nodes. */
    private record Two(Node x, Node y) {
        @Override public boolean equals(Object other) {
            return other instanceof Two two && two.x == x && two.y == y;
        }

        @Override public int hashCode() {
            return 31 * System.identityHashCode(x) + System.identityHashCode(y);
        }
    }

    private static final class Model {
        String text = "";
        int kind;
        Node[] names = new Node[8];
        final ArrayDeque<Node[]> versions = new ArrayDeque<>();
        final int[] refused = new int[3];

        long answer(String call, int[] c) {
            switch (call) {
                case "type":
                    need(c[1] >= 0 && c[1] <= 127);
                    if (text.length() == 120) {
                        throw new Refused(-4);
                    }
                    text += (char) c[1];
                    return text.length();
                case "clear": {
                    int had = text.length();
                    text = "";
                    return had;
                }
                case "read": return read();
                case "order": {
                    need(c[1] >= 0 && c[1] <= 4);
                    int was = kind;
                    kind = c[1];
                    return was;
                }
                case "back":
                    if (versions.isEmpty()) {
                        throw new Refused(-3);
                    }
                    names = versions.removeLast();
                    return versions.size();
                case "told":
                    need(c[1] >= 0 && c[1] <= 6);
                    return told(c[1]);
                case "digest": return digest();
                case "base":
                    need(c[1] >= 0 && c[1] <= 3);
                    return give(c[2], new Node(c[1]));
                case "draw": return draw(c[1], c[2], c[3]);
                default: return answerOfTypes(call, c);
            }
        }

        private void need(boolean holds) {
            if (!holds) {
                throw new Refused(-2);
            }
        }

        private Node typed(int name) {
            need(name >= 0 && name < 8 && names[name] != null);
            return names[name];
        }

        private long answerOfTypes(String call, int[] c) {
            switch (call) {
                case "size": return unlike(typed(c[1])).size();
                case "head": return typed(c[1]).head;
                case "code": return code(typed(c[1]));
                case "deep": return deep(typed(c[1]), new ArrayDeque<>());
                case "heads": return endless(typed(c[1])) ? -1 : Math.min(1000000, treeHeads(typed(c[1]), new IdentityHashMap<>()));
                case "many":
                    need(c[2] >= 0 && c[2] <= 6);
                    return unlike(typed(c[1])).stream().filter(n -> n.head == c[2]).count();
                case "looping": return unlike(typed(c[1])).stream().filter(this::loops).count();
                case "filled": return least(typed(c[1]), new ArrayDeque<>(), new IdentityHashMap<>()) < 0 ? 0 : 1;
                case "least": return Math.min(1000000, least(typed(c[1]), new ArrayDeque<>(), new IdentityHashMap<>()));
                case "make": {
                    need(c[1] >= 4 && c[1] <= 6);
                    Node made = new Node(c[1]);
                    made.parts[0] = typed(c[2]);
                    Node second = typed(c[3]);
                    if (c[1] > 4) {
                        made.parts[1] = second;
                    }
                    return give(c[4], made);
                }
                case "part": {
                    Node whole = typed(c[1]);
                    need(c[2] == 0 || c[2] == 1);
                    need(c[3] >= 0 && c[3] < 8);
                    if (c[2] >= whole.parts.length) {
                        throw new Refused(-3);
                    }
                    return give(c[3], whole.parts[c[2]]);
                }
                case "copy": return give(c[2], typed(c[1]));
                case "cut":
                    typed(c[1]);
                    need(c[2] >= 0 && c[2] <= 9);
                    return give(c[3], cut(typed(c[1]), c[2]));
                case "turn":
                    typed(c[1]);
                    need(c[2] == 5 || c[2] == 6);
                    return give(c[3], turn(typed(c[1]), c[2], new IdentityHashMap<>()));
                case "bound":
                    need(c[1] == 0 || c[1] == 1);
                    return give(c[4], bound(c[1] == 1, typed(c[2]), typed(c[3]), List.of(new HashMap<>(), new HashMap<>())));
                case "swap": {
                    Node piece = typed(c[2]);
                    return give(c[4], swap(typed(c[1]), piece, typed(c[3]), new IdentityHashMap<>()));
                }
                default: return answerOfTwo(call, c, typed(c[1]), typed(c[2]));
            }
        }

        private long answerOfTwo(String call, int[] c, Node x, Node y) {
            switch (call) {
                case "under": return under(x, y, new HashSet<>()) ? 1 : 0;
                case "alike": return alike(x, y) ? 1 : 0;
                case "apart": return apart(x, y, c[3]);
                case "near":
                    need(c[3] >= 0 && c[3] <= 60);
                    return near(x, y, c[3], new HashMap<>()) ? 1 : 0;
                case "shared": {
                    List<Node> others = unlike(y);
                    return unlike(x).stream().filter(n -> others.stream().anyMatch(m -> alike(n, m))).count();
                }
                case "way": return way(x, y);
                default: {
                    Set<String> signs = new HashSet<>();
                    signs(x, y, 0, unlike(x), signs);
                    return (signs.contains("found 0") ? 1 : 0) + (signs.contains("found 1") ? 2 : 0);
                }
            }
        }

        // ---- what a type is

        private boolean alike(Node x, Node y) {
            return alikeAs(x, y, new HashSet<>());
        }

        private boolean alikeAs(Node x, Node y, Set<Two> claims) {
            if (x == y || !claims.add(new Two(x, y))) {
                return true;
            }
            if (x.head != y.head) {
                return false;
            }
            for (int i = 0; i < x.parts.length; i++) {
                if (!alikeAs(x.parts[i], y.parts[i], claims)) {
                    return false;
                }
            }
            return true;
        }

        private List<Node> all(Node root) {
            List<Node> found = new ArrayList<>();
            Map<Node, Boolean> seen = new IdentityHashMap<>();
            found.add(root);
            seen.put(root, true);
            for (int at = 0; at < found.size(); at++) {
                for (Node part : found.get(at).parts) {
                    if (seen.put(part, true) == null) {
                        found.add(part);
                    }
                }
            }
            return found;
        }

        private List<Node> unlike(Node root) {
            List<Node> unlike = new ArrayList<>();
            for (Node node : all(root)) {
                if (unlike.stream().noneMatch(other -> alike(other, node))) {
                    unlike.add(node);
                    if (unlike.size() > 40) {
                        return unlike;
                    }
                }
            }
            return unlike;
        }

        private long code(Node root) {
            List<Node> unlike = unlike(root);
            long h = 1;
            for (Node node : unlike) {
                h = 31 * h + node.head;
                for (Node part : node.parts) {
                    h = 31 * h + numberIn(unlike, part);
                }
            }
            return h;
        }

        private int numberIn(List<Node> unlike, Node node) {
            int at = 0;
            while (!alike(unlike.get(at), node)) {
                at++;
            }
            return at;
        }

        /** A name keeps one node for each unlike type, so that the model stays quick enough. */
        private Node tidy(Node root) {
            List<Node> unlike = unlike(root);
            if (unlike.size() > 40) {
                throw new Refused(-4);
            }
            List<Node> kept = new ArrayList<>();
            unlike.forEach(node -> kept.add(new Node(node.head)));
            for (int at = 0; at < kept.size(); at++) {
                for (int i = 0; i < kept.get(at).parts.length; i++) {
                    kept.get(at).parts[i] = kept.get(numberIn(unlike, unlike.get(at).parts[i]));
                }
            }
            return kept.get(0);
        }

        private int give(int to, Node node) {
            need(to >= 0 && to < 8);
            Node kept = tidy(node);
            keep();
            names[to] = kept;
            return unlike(kept).size();
        }

        private void keep() {
            versions.addLast(names.clone());
            if (versions.size() > 8) {
                versions.removeFirst();
            }
        }

        // ---- questions

        private boolean turns(Node x) {
            return x.head == 6 && kind != 2 && kind != 4;
        }

        private boolean goes(int x, int y) {
            boolean same = x == y;
            boolean ends = x == 0 || y == 3;
            boolean up = x == 1 && y == 2;
            boolean down = x == 2 && y == 1;
            switch (kind) {
                case 0: case 2: return same || ends || up;
                case 1: return same || ends;
                case 3: return same;
                default: return same || ends || up || down;
            }
        }

        private boolean under(Node x, Node y, Set<Two> claims) {
            if (!claims.add(new Two(x, y))) {
                return true;
            }
            if (!goes(x.head, y.head)) {
                return false;
            }
            for (int i = 0; x.head == y.head && i < x.parts.length; i++) {
                boolean about = i == 0 && turns(x);
                if (!under(about ? y.parts[i] : x.parts[i], about ? x.parts[i] : y.parts[i], claims)) {
                    return false;
                }
            }
            return true;
        }

        /** The shortest row of steps found by longer and longer ones, 0 tried first at each place. */
        private long apart(Node x, Node y, int k) {
            need(k >= -1);
            if (under(x, y, new HashSet<>())) {
                return -6;
            }
            for (int length = 0; ; length++) {
                List<Integer> steps = new ArrayList<>();
                if (fails(x, y, length, steps, new HashSet<>())) {
                    return k == -1 ? length : k >= length ? -5 : steps.get(length - 1 - k);
                }
            }
        }

        private boolean fails(Node x, Node y, int length, List<Integer> steps, Set<String> vain) {
            if (length == 0) {
                return !goes(x.head, y.head);
            }
            String claim = System.identityHashCode(x) + " " + System.identityHashCode(y) + " " + length;
            if (x.head != y.head || vain.contains(claim)) {
                return false;
            }
            for (int i = 0; i < x.parts.length; i++) {
                boolean about = i == 0 && turns(x);
                if (fails(about ? y.parts[i] : x.parts[i], about ? x.parts[i] : y.parts[i], length - 1, steps, vain)) {
                    steps.add(i);
                    return true;
                }
            }
            vain.add(claim);
            return false;
        }

        private boolean near(Node x, Node y, int n, Map<Two, Integer> known) {
            if (x.head != y.head) {
                return false;
            }
            if (n == 0 || known.getOrDefault(new Two(x, y), 0) >= n) {
                return true;
            }
            known.put(new Two(x, y), n);
            for (int i = 0; i < x.parts.length; i++) {
                if (!near(x.parts[i], y.parts[i], n - 1, known)) {
                    return false;
                }
            }
            return true;
        }

        private int way(Node x, Node y) {
            Set<Node> layer = new HashSet<>(Set.of(x));
            for (int steps = 0; steps <= 40; steps++) {
                if (layer.stream().anyMatch(node -> alike(node, y))) {
                    return steps;
                }
                Set<Node> next = new HashSet<>();
                layer.forEach(node -> next.addAll(List.of(node.parts)));
                layer = next;
            }
            return -1;
        }

        private boolean loops(Node node) {
            return List.of(node.parts).stream().anyMatch(part -> all(part).stream().anyMatch(other -> alike(other, node)));
        }

        private boolean endless(Node x) {
            return all(x).stream().anyMatch(this::loops);
        }

        private int deep(Node x, ArrayDeque<Node> open) {
            if (endless(x)) {
                return -1;
            }
            int deepest = 0;
            Set<Node> layer = new HashSet<>(Set.of(x));
            while (!layer.isEmpty()) {
                Set<Node> next = new HashSet<>();
                layer.forEach(node -> next.addAll(List.of(node.parts)));
                layer = next;
                deepest++;
            }
            return deepest - 1;
        }

        private long treeHeads(Node x, Map<Node, Long> known) {
            Long is = known.get(x);
            if (is == null) {
                is = 1L;
                for (Node part : x.parts) {
                    is += treeHeads(part, known);
                }
                known.put(x, is);
            }
            return is;
        }

        /** A pair that waits for itself never ends. */
        private long least(Node x, ArrayDeque<Node> open, Map<Node, Long> known) {
            if (x.head != 5) {
                return x.head == 0 ? -1 : 1;
            }
            if (known.containsKey(x)) {
                return known.get(x);
            }
            if (open.contains(x)) {
                return -1;
            }
            open.push(x);
            long first = least(x.parts[0], open, known);
            long second = first < 0 ? -1 : least(x.parts[1], open, known);
            open.pop();
            long is = first < 0 || second < 0 ? -1 : 1 + first + second;
            if (is > 0) {
                known.put(x, is);
            }
            return is;
        }

        private void signs(Node x, Node y, int sign, List<Node> numbers, Set<String> met) {
            if (!met.add(numberIn(numbers, x) + " " + sign)) {
                return;
            }
            if (alike(x, y)) {
                met.add("found " + sign);
            }
            for (int i = 0; i < x.parts.length; i++) {
                signs(x.parts[i], y, x.head == 6 && i == 0 ? 1 - sign : sign, numbers, met);
            }
        }

        // ---- new types

        private Node cut(Node x, int n) {
            if (n == 0) {
                return new Node(3);
            }
            Node made = new Node(x.head);
            for (int i = 0; i < x.parts.length; i++) {
                made.parts[i] = cut(x.parts[i], n - 1);
            }
            return made;
        }

        private Node turn(Node x, int head, Map<Node, Node> made) {
            if (made.containsKey(x)) {
                return made.get(x);
            }
            Node copy = new Node(x.head);
            made.put(x, copy);
            for (int i = 0; i < x.parts.length; i++) {
                copy.parts[x.head == head ? 1 - i : i] = turn(x.parts[i], head, made);
            }
            return copy;
        }

        private Node swap(Node x, Node out, Node in, Map<Node, Node> made) {
            if (alike(x, out)) {
                return in;
            }
            if (made.containsKey(x)) {
                return made.get(x);
            }
            Node copy = new Node(x.head);
            made.put(x, copy);
            for (int i = 0; i < x.parts.length; i++) {
                copy.parts[i] = swap(x.parts[i], out, in, made);
            }
            return copy;
        }

        private Node bound(boolean up, Node x, Node y, List<Map<Two, Node>> made) {
            Map<Two, Node> here = made.get(up ? 1 : 0);
            Two two = new Two(x, y);
            if (here.containsKey(two)) {
                return here.get(two);
            }
            int low = Math.min(x.head, y.head);
            int high = Math.max(x.head, y.head);
            if (x.head == y.head) {
                Node both = new Node(x.head);
                here.put(two, both);
                for (int i = 0; i < both.parts.length; i++) {
                    both.parts[i] = bound(up != (i == 0 && x.head == 6), x.parts[i], y.parts[i], made);
                }
                return both;
            }
            if (up) {
                return low == 0 ? (x.head == 0 ? y : x) : low == 1 && high == 2 ? new Node(2) : new Node(3);
            }
            if (x.head == 3 || y.head == 3) {
                return x.head == 3 ? y : x;
            }
            return low == 1 && high == 2 ? new Node(1) : new Node(0);
        }

        private long draw(int seed, int n, int to) {
            need(seed >= 0 && seed <= 999999 && n >= 1 && n <= 12 && to >= 0 && to < 8);
            long x = seed;
            Node[] nodes = new Node[n];
            int[][] parts = new int[n][2];
            for (int at = 0; at < n; at++) {
                x = (x * 1103515245 + 12345) % 2147483648L;
                nodes[at] = new Node((int) (x / 65536 % 7));
                parts[at] = new int[] {(int) (x / 1024 % n), (int) (x / 32768 % n)};
            }
            for (int at = 0; at < n; at++) {
                for (int i = 0; i < nodes[at].parts.length; i++) {
                    nodes[at].parts[i] = nodes[parts[at][i]];
                }
            }
            return give(to, nodes[0]);
        }

        // ---- the text

        /** A term: a head with parts, or a letter (head 7). */
        private static final class Term {
            int head;
            Term[] parts = {};
            int letter;
            int place;
        }

        private int at;
        private List<Term> spoken;

        private long read() {
            try {
                Map<Integer, Term> told = new java.util.LinkedHashMap<>();
                Map<Integer, Integer> places = new HashMap<>();
                parse(told, places);
                for (Term term : spoken) {
                    if (!told.containsKey(term.letter) && names[term.letter] == null) {
                        throw new Fault(term.place);
                    }
                }
                for (int letter : told.keySet()) {
                    int next = letter;
                    for (int hop = 0; hop < 20; hop++) {
                        Term term = told.get(next);
                        if (term == null || term.head != 7) {
                            break;
                        }
                        next = term.letter;
                        if (next == letter) {
                            throw new Fault(places.get(letter));
                        }
                    }
                }
                Map<Term, Node> made = new IdentityHashMap<>();
                Map<Integer, Node> news = new HashMap<>();
                told.forEach((letter, term) -> news.put(letter, tidy(nodeOf(term, told, made))));
                keep();
                news.forEach((letter, node) -> names[letter] = node);
                return told.size();
            } catch (Fault fault) {
                return -10 - fault.at;
            }
        }

        private Node nodeOf(Term term, Map<Integer, Term> told, Map<Term, Node> made) {
            if (term.head == 7) {
                return told.containsKey(term.letter) ? nodeOf(told.get(term.letter), told, made) : names[term.letter];
            }
            if (!made.containsKey(term)) {
                Node node = new Node(term.head);
                made.put(term, node);
                for (int i = 0; i < node.parts.length; i++) {
                    node.parts[i] = nodeOf(term.parts[i], told, made);
                }
            }
            return made.get(term);
        }

        private char peek() {
            while (at < text.length() && text.charAt(at) == ' ') {
                at++;
            }
            return at < text.length() ? text.charAt(at) : '$';
        }

        private char take(String among) {
            char c = peek();
            if (at == text.length() || among.indexOf(c) < 0) {
                throw new Fault(at);
            }
            at++;
            return c;
        }

        private void parse(Map<Integer, Term> told, Map<Integer, Integer> places) {
            at = 0;
            spoken = new ArrayList<>();
            do {
                int letter = take("abcdefgh") - 'a';
                if (told.containsKey(letter)) {
                    throw new Fault(at - 1);
                }
                places.put(letter, at - 1);
                take("=");
                told.put(letter, term());
                take(";");
                peek();
            } while (at < text.length());
        }

        private Term term() {
            Term left = product();
            if (peek() == '>' && at < text.length()) {
                at++;
                return join(6, left, term());
            }
            return left;
        }

        private Term product() {
            Term left = atom();
            while (peek() == '*' && at < text.length()) {
                at++;
                left = join(5, left, atom());
            }
            return left;
        }

        private Term atom() {
            char c = take("0123abcdefgh[(");
            if (c == '[' || c == '(') {
                Term inner = term();
                take(c == '[' ? "]" : ")");
                return c == '(' ? inner : join(4, inner);
            }
            Term leaf = new Term();
            leaf.place = at - 1;
            if (c >= 'a') {
                leaf.head = 7;
                leaf.letter = c - 'a';
                spoken.add(leaf);
            } else {
                leaf.head = c - '0';
            }
            return leaf;
        }

        private Term join(int head, Term... parts) {
            Term joined = new Term();
            joined.head = head;
            joined.parts = parts;
            return joined;
        }

        // ---- what there is

        private long told(int what) {
            if (what < 3) {
                return refused[what];
            }
            if (what < 6) {
                return what == 3 ? versions.size() : what == 4 ? text.length() : kind;
            }
            long bits = 0;
            for (int name = 0; name < 8; name++) {
                bits += names[name] == null ? 0 : 1L << name;
            }
            return bits;
        }

        long digest() {
            long h = 1901;
            for (int what = 0; what < 7; what++) {
                h = 31 * h + told(what);
            }
            for (Node node : names) {
                h = 31 * h + (node == null ? 0 : code(node));
            }
            return h;
        }
    }
}
