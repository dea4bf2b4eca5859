/** A checker of types that hold themselves; ../shared/DOC.md says what each call promises. */
public final class LoopTypes {
    public static final int NONE = -1, BAD = -2, NO = -3, FULL = -4;

    private static final int VOID = 0, INT = 1, NUM = 2, ANY = 3, ROW = 4, PAIR = 5, FUN = 6;
    private static final int HEAD_KINDS = 7;
    private static final int STIFF = 1, BOLD = 2, BARE = 3, SLACK = 4;
    private static final int NAME_COUNT = 8;
    private static final int SIZE_LIMIT = 40;
    private static final int TEXT_LIMIT = 120;
    private static final int VERSION_LIMIT = 8;
    private static final int COUNT_LIMIT = 1000000;
    private static final int TOLD_COUNT = 7;
    private static final int PAIR_LIMIT = 2 * SIZE_LIMIT * SIZE_LIMIT;
    private static final int BENCH_LIMIT = PAIR_LIMIT + 2 * SIZE_LIMIT;

    private final int[] text;
    private int textSize;
    private int orderKind;
    private final Graph[] names;
    private final Graph[] pending;
    private final Graph[] versions;
    private int versionSlot;
    private int versionCount;
    private int badCount;
    private int noCount;
    private int fullCount;
    private final Bench bench;
    private final Claims claims;
    private final Measures measures;
    private final Reader reader;

    public LoopTypes() {
        text = new int[TEXT_LIMIT];
        names = new Graph[NAME_COUNT];
        pending = new Graph[NAME_COUNT];
        versions = new Graph[VERSION_LIMIT * NAME_COUNT];
        bench = new Bench();
        claims = new Claims();
        measures = new Measures();
        reader = new Reader();
    }

    // ---- texts

    public int type(int c) {
        if (c < 0 || c > 127) {
            return refuseBad();
        }
        if (textSize >= TEXT_LIMIT) {
            return refuseFull();
        }
        text[textSize] = c;
        textSize++;
        return textSize;
    }

    public int clear() {
        int had = textSize;
        textSize = 0;
        return had;
    }

    public int read() {
        int fault = reader.faultOf(text, textSize, names);
        if (fault != NONE) {
            return -10 - fault;
        }
        reader.layOut(bench, names);
        int equations = reader.equationCount();
        for (int at = 0; at < equations; at++) {
            pending[at] = bench.smallest(reader.rootOf(at));
            if (pending[at] == null) {
                return refuseFull();
            }
        }
        keepVersion();
        for (int at = 0; at < equations; at++) {
            names[reader.letterOf(at)] = pending[at];
        }
        return equations;
    }

    public int order(int kind) {
        if (kind < 0 || kind > SLACK) {
            return refuseBad();
        }
        int was = orderKind;
        orderKind = kind;
        return was;
    }

    // ---- two types

    public int under(int a, int b) {
        Graph x = graphOf(a);
        Graph y = graphOf(b);
        if (x == null || y == null) {
            return refuseBad();
        }
        return claims.firstFailing(x, y, orderKind) == NONE ? 1 : 0;
    }

    public int alike(int a, int b) {
        Graph x = graphOf(a);
        Graph y = graphOf(b);
        if (x == null || y == null) {
            return refuseBad();
        }
        return x.sameAs(y) ? 1 : 0;
    }

    public int apart(int a, int b, int k) {
        Graph x = graphOf(a);
        Graph y = graphOf(b);
        if (x == null || y == null || k < NONE) {
            refuseBad();
            return -10;
        }
        int failing = claims.firstFailing(x, y, orderKind);
        if (failing == NONE) {
            return -6;
        }
        int steps = claims.stepCount(failing);
        if (k == NONE) {
            return steps;
        }
        return k >= steps ? -5 : claims.lastStep(failing, steps - 1 - k);
    }

    public int near(int a, int b, int n) {
        Graph x = graphOf(a);
        Graph y = graphOf(b);
        if (x == null || y == null || n < 0 || n > 60) {
            return refuseBad();
        }
        return claims.sameDownTo(x, y, n) ? 1 : 0;
    }

    public int shared(int a, int b) {
        Graph x = graphOf(a);
        Graph y = graphOf(b);
        if (x == null || y == null) {
            return refuseBad();
        }
        return measures.commonCount(x, y);
    }

    public int way(int a, int b) {
        Graph x = graphOf(a);
        Graph y = graphOf(b);
        if (x == null || y == null) {
            return refuseBad();
        }
        return measures.stepsTo(x, measures.placeOf(x, y));
    }

    // ---- one type

    public int size(int a) {
        Graph x = graphOf(a);
        return x == null ? refuseBad() : x.size;
    }

    public int head(int a) {
        Graph x = graphOf(a);
        return x == null ? refuseBad() : x.headAt(0);
    }

    public long code(int a) {
        Graph x = graphOf(a);
        return x == null ? refuseBad() : x.codeOf();
    }

    public int deep(int a) {
        Graph x = graphOf(a);
        return x == null ? refuseBad() : measures.longestWay(x);
    }

    public int heads(int a) {
        Graph x = graphOf(a);
        return x == null ? refuseBad() : measures.treeHeads(x);
    }

    public int many(int a, int head) {
        Graph x = graphOf(a);
        if (x == null || head < 0 || head >= HEAD_KINDS) {
            return refuseBad();
        }
        return x.countOf(head);
    }

    public int looping(int a) {
        Graph x = graphOf(a);
        return x == null ? refuseBad() : measures.loopCount(x);
    }

    public int filled(int a) {
        Graph x = graphOf(a);
        if (x == null) {
            return refuseBad();
        }
        return measures.leastValue(x) == NONE ? 0 : 1;
    }

    public int least(int a) {
        Graph x = graphOf(a);
        return x == null ? refuseBad() : measures.leastValue(x);
    }

    public int signs(int a, int b) {
        Graph x = graphOf(a);
        Graph y = graphOf(b);
        if (x == null || y == null) {
            return refuseBad();
        }
        return measures.signsAt(x, measures.placeOf(x, y));
    }

    // ---- new types

    public int base(int head, int to) {
        if (head < VOID || head > ANY || !isName(to)) {
            return refuseBad();
        }
        bench.start();
        return give(to, bench.smallest(bench.put(head, 0, 0)));
    }

    public int make(int head, int a, int b, int to) {
        Graph x = graphOf(a);
        Graph y = graphOf(b);
        if (head < ROW || head > FUN || x == null || y == null || !isName(to)) {
            return refuseBad();
        }
        bench.start();
        int first = bench.putAll(x);
        int second = bench.putAll(y);
        return give(to, bench.smallest(bench.put(head, first, second)));
    }

    public int part(int a, int i, int to) {
        Graph x = graphOf(a);
        if (x == null || i < 0 || i > 1 || !isName(to)) {
            return refuseBad();
        }
        if (i >= x.partCount(0)) {
            return refuseNo();
        }
        bench.start();
        bench.putAll(x);
        return give(to, bench.smallest(x.partAt(0, i)));
    }

    public int copy(int a, int to) {
        Graph x = graphOf(a);
        if (x == null || !isName(to)) {
            return refuseBad();
        }
        return give(to, x);
    }

    public int bound(int up, int a, int b, int to) {
        Graph x = graphOf(a);
        Graph y = graphOf(b);
        if (up < 0 || up > 1 || x == null || y == null || !isName(to)) {
            return refuseBad();
        }
        return give(to, claims.boundOf(x, y, up == 1, bench));
    }

    public int swap(int a, int b, int c, int to) {
        Graph x = graphOf(a);
        Graph y = graphOf(b);
        Graph z = graphOf(c);
        if (x == null || y == null || z == null || !isName(to)) {
            return refuseBad();
        }
        return give(to, bench.replaced(x, measures.placeOf(x, y), z));
    }

    public int cut(int a, int n, int to) {
        Graph x = graphOf(a);
        if (x == null || n < 0 || n > 9 || !isName(to)) {
            return refuseBad();
        }
        return give(to, bench.cutOff(x, n));
    }

    public int turn(int a, int head, int to) {
        Graph x = graphOf(a);
        if (x == null || head < PAIR || head > FUN || !isName(to)) {
            return refuseBad();
        }
        return give(to, bench.turned(x, head));
    }

    public int draw(int seed, int n, int to) {
        if (seed < 0 || seed > 999999 || n < 1 || n > 12 || !isName(to)) {
            return refuseBad();
        }
        return give(to, bench.drawn(seed, n));
    }

    // ---- what there is

    public int back() {
        if (versionCount == 0) {
            return refuseNo();
        }
        versionSlot = versionSlot == 0 ? VERSION_LIMIT - 1 : versionSlot - 1;
        versionCount--;
        for (int name = 0; name < NAME_COUNT; name++) {
            names[name] = versions[versionSlot * NAME_COUNT + name];
        }
        return versionCount;
    }

    public int told(int what) {
        if (what < 0 || what >= TOLD_COUNT) {
            return refuseBad();
        }
        return reportOf(what);
    }

    public long digest() {
        long h = 1901;
        for (int what = 0; what < TOLD_COUNT; what++) {
            h = 31 * h + reportOf(what);
        }
        for (int name = 0; name < NAME_COUNT; name++) {
            Graph x = names[name];
            h = 31 * h + (x == null ? 0 : x.codeOf());
        }
        return h;
    }

    // ---- what the calls share

    private static boolean isName(int name) {
        return name >= 0 && name < NAME_COUNT;
    }

    private Graph graphOf(int name) {
        return isName(name) ? names[name] : null;
    }

    private int refuseBad() {
        badCount++;
        return BAD;
    }

    private int refuseNo() {
        noCount++;
        return NO;
    }

    private int refuseFull() {
        fullCount++;
        return FULL;
    }

    /** A null graph stands for one that would be too large. */
    private int give(int to, Graph graph) {
        if (graph == null) {
            return refuseFull();
        }
        keepVersion();
        names[to] = graph;
        return graph.size;
    }

    /** Graphs never change, so a version needs only the references. */
    private void keepVersion() {
        for (int name = 0; name < NAME_COUNT; name++) {
            versions[versionSlot * NAME_COUNT + name] = names[name];
        }
        versionSlot = versionSlot + 1 == VERSION_LIMIT ? 0 : versionSlot + 1;
        versionCount = Math.min(VERSION_LIMIT, versionCount + 1);
    }

    private int reportOf(int what) {
        switch (what) {
            case 0: return badCount;
            case 1: return noCount;
            case 2: return fullCount;
            case 3: return versionCount;
            case 4: return textSize;
            case 5: return orderKind;
            default: return nameBits();
        }
    }

    private int nameBits() {
        int bits = 0;
        for (int name = 0; name < NAME_COUNT; name++) {
            if (names[name] != null) {
                bits |= 1 << name;
            }
        }
        return bits;
    }

    private static int partsOf(int head) {
        if (head < ROW) {
            return 0;
        }
        return head == ROW ? 1 : 2;
    }

    private static void fillRow(int[] row, int count, int value) {
        int end = Math.min(count, row.length);
        for (int at = 0; at < end; at++) {
            row[at] = value;
        }
    }

    /**
     * A type as its smallest graph, numbered as THE CODE numbers it: two types are
     * alike if and only if their graphs are the same, number by number.
     */
    private static final class Graph {
        final int size;
        /** HEAD, PART 0, PART 1 of each node; 0 stands for a part that is not there. */
        private final int[] cells;

        Graph(int[] cells) {
            this.cells = cells;
            this.size = cells.length / 3;
        }

        private boolean holds(int node) {
            return node >= 0 && node < size;
        }

        int headAt(int node) {
            return holds(node) ? cells[3 * node] : VOID;
        }

        int partCount(int node) {
            return partsOf(headAt(node));
        }

        int partAt(int node, int i) {
            return holds(node) && i >= 0 && i < 2 ? cells[3 * node + 1 + i] : 0;
        }

        boolean sameAs(Graph other) {
            if (size != other.size) {
                return false;
            }
            for (int node = 0; node < size; node++) {
                if (headAt(node) != other.headAt(node)
                        || partAt(node, 0) != other.partAt(node, 0)
                        || partAt(node, 1) != other.partAt(node, 1)) {
                    return false;
                }
            }
            return true;
        }

        int countOf(int head) {
            int count = 0;
            for (int node = 0; node < size; node++) {
                if (headAt(node) == head) {
                    count++;
                }
            }
            return count;
        }

        long codeOf() {
            long h = 1;
            for (int node = 0; node < size; node++) {
                h = 31 * h + headAt(node);
                int parts = partCount(node);
                for (int i = 0; i < parts; i++) {
                    h = 31 * h + partAt(node, i);
                }
            }
            return h;
        }
    }

    /** Where a graph of any form is laid out, to be made the smallest. */
    private static final class Bench {
        private final int[] heads;
        private final int[] firsts;
        private final int[] seconds;
        private int count;
        /** The nodes reached from a root, nearest first, PART 0 ahead of PART 1. */
        private final int[] reached;
        private final int[] seen;
        private final int[] groups;
        private final int[] nextGroups;
        /** The group of a signature (HEAD and the groups of both parts), or NONE. */
        private final int[] groupOf;
        private final int[] signatures;

        Bench() {
            heads = new int[BENCH_LIMIT];
            firsts = new int[BENCH_LIMIT];
            seconds = new int[BENCH_LIMIT];
            reached = new int[BENCH_LIMIT];
            seen = new int[BENCH_LIMIT];
            groups = new int[BENCH_LIMIT];
            nextGroups = new int[BENCH_LIMIT];
            groupOf = new int[HEAD_KINDS * SIZE_LIMIT * SIZE_LIMIT];
            signatures = new int[SIZE_LIMIT];
            for (int at = 0; at < groupOf.length; at++) {
                groupOf[at] = NONE;
            }
        }

        void start() {
            count = 0;
        }

        private static boolean holds(int node) {
            return node >= 0 && node < BENCH_LIMIT;
        }

        int put(int head, int first, int second) {
            if (count >= BENCH_LIMIT || head < 0 || head >= HEAD_KINDS) {
                return 0;
            }
            int node = count;
            heads[node] = head;
            firsts[node] = holds(first) ? first : 0;
            seconds[node] = holds(second) ? second : 0;
            count++;
            return node;
        }

        int putAll(Graph graph) {
            int offset = count;
            for (int node = 0; node < graph.size; node++) {
                put(graph.headAt(node), offset + graph.partAt(node, 0), offset + graph.partAt(node, 1));
            }
            return offset;
        }

        void link(int node, int i, int part) {
            if (!holds(node) || !holds(part)) {
                return;
            }
            if (i == 0) {
                firsts[node] = part;
            } else {
                seconds[node] = part;
            }
        }

        private int linked(int node, int i) {
            return i == 0 ? firsts[node] : seconds[node];
        }

        Graph replaced(Graph graph, int out, Graph in) {
            start();
            putAll(graph);
            int inRoot = putAll(in);
            for (int node = 0; node < graph.size; node++) {
                int parts = graph.partCount(node);
                for (int i = 0; i < parts; i++) {
                    if (graph.partAt(node, i) == out) {
                        link(node, i, inRoot);
                    }
                }
            }
            return smallest(out == 0 ? inRoot : 0);
        }

        /** One layer of the graph a step, so that a node knows how far down it is. */
        Graph cutOff(Graph graph, int steps) {
            start();
            int end = put(ANY, 0, 0);
            for (int step = 0; step < steps; step++) {
                int below = count + graph.size;
                for (int node = 0; node < graph.size; node++) {
                    boolean last = step + 1 == steps;
                    put(graph.headAt(node), last ? end : below + graph.partAt(node, 0),
                            last ? end : below + graph.partAt(node, 1));
                }
            }
            return smallest(steps == 0 ? end : end + 1);
        }

        Graph turned(Graph graph, int head) {
            start();
            for (int node = 0; node < graph.size; node++) {
                int first = graph.partAt(node, 0);
                int second = graph.partAt(node, 1);
                if (graph.headAt(node) == head) {
                    put(head, second, first);
                } else {
                    put(graph.headAt(node), first, second);
                }
            }
            return smallest(0);
        }

        Graph drawn(int seed, int nodes) {
            start();
            if (nodes < 1) {
                return null;
            }
            long x = seed;
            for (int node = 0; node < nodes; node++) {
                x = (x * 1103515245L + 12345L) % 2147483648L;
                put((int) (x / 65536 % 7), (int) (x / 1024 % nodes), (int) (x / 32768 % nodes));
            }
            return smallest(0);
        }

        /**
         * The smallest graph of the root's type, or null if its SIZE is above the limit.
         * The groups only ever split, so more of them than the limit settle it at once.
         */
        Graph smallest(int root) {
            if (root < 0 || root >= count) {
                return null;
            }
            int found = reachFrom(root);
            for (int at = 0; at < found; at++) {
                groups[reached[at]] = 0;
            }
            int groupCount = 1;
            for (int round = 0; round <= SIZE_LIMIT; round++) {
                int split = splitGroups(found);
                if (split == FULL) {
                    return null;
                }
                if (split == groupCount) {
                    break;
                }
                groupCount = split;
            }
            return writeDown(found, groupCount);
        }

        private int reachFrom(int root) {
            fillRow(seen, count, 0);
            reached[0] = root;
            seen[root] = 1;
            int found = 1;
            for (int at = 0; at < found; at++) {
                int node = reached[at];
                int parts = partsOf(heads[node]);
                for (int i = 0; i < parts; i++) {
                    int part = linked(node, i);
                    if (seen[part] == 0 && found < BENCH_LIMIT) {
                        seen[part] = 1;
                        reached[found] = part;
                        found++;
                    }
                }
            }
            return found;
        }

        /** Groups are numbered as they come from the root on, which is THE CODE's numbering. */
        private int splitGroups(int found) {
            int split = 0;
            boolean full = false;
            for (int at = 0; at < found && !full; at++) {
                int node = reached[at];
                int signature = signatureOf(node);
                if (groupOf[signature] == NONE) {
                    if (split < SIZE_LIMIT) {
                        groupOf[signature] = split;
                        signatures[split] = signature;
                        split++;
                    } else {
                        full = true;
                    }
                }
                nextGroups[node] = groupOf[signature];
            }
            for (int group = 0; group < split; group++) {
                groupOf[signatures[group]] = NONE;
            }
            if (full) {
                return FULL;
            }
            for (int at = 0; at < found; at++) {
                groups[reached[at]] = nextGroups[reached[at]];
            }
            return split;
        }

        private int signatureOf(int node) {
            int first = groupOfPart(node, 0);
            int second = groupOfPart(node, 1);
            return (heads[node] * SIZE_LIMIT + first) * SIZE_LIMIT + second;
        }

        private int groupOfPart(int node, int i) {
            return i < partsOf(heads[node]) ? groups[linked(node, i)] : 0;
        }

        private Graph writeDown(int found, int groupCount) {
            int[] cells = new int[3 * groupCount];
            int written = 0;
            for (int at = 0; at < found && written < groupCount; at++) {
                int node = reached[at];
                if (groups[node] == written) {
                    cells[3 * written] = heads[node];
                    cells[3 * written + 1] = groupOfPart(node, 0);
                    cells[3 * written + 2] = groupOfPart(node, 1);
                    written++;
                }
            }
            return new Graph(cells);
        }
    }

    /** Walks over pairs of nodes, one of each of two graphs, nearest first. */
    private static final class Claims {
        private Graph left;
        private Graph right;
        /** A pair's number is its place among all, those that changed about last. */
        private final int[] pairs;
        private int pairCount;
        /** How a pair was come by: 2 times the place of the pair ahead of it and the step. */
        private final int[] origins;
        /** NONE, or that the pair was met (for bounds: its node on the bench). */
        private final int[] marks;

        Claims() {
            pairs = new int[PAIR_LIMIT];
            origins = new int[PAIR_LIMIT];
            marks = new int[PAIR_LIMIT];
        }

        private void start(Graph x, Graph y) {
            left = x;
            right = y;
            pairCount = 0;
            fillRow(marks, 2 * x.size * y.size, NONE);
        }

        private int numberOf(int x, int y, boolean about) {
            return ((about ? left.size : 0) + x) * right.size + y;
        }

        private boolean isAbout(int pair) {
            return pair >= left.size * right.size;
        }

        private int leftOf(int pair) {
            int row = right.size == 0 ? 0 : pair / right.size;
            return row >= left.size ? row - left.size : row;
        }

        private int rightOf(int pair) {
            return right.size == 0 ? 0 : pair % right.size;
        }

        private void meet(int pair, int mark, int origin) {
            if (pair < 0 || pair >= PAIR_LIMIT || pairCount >= PAIR_LIMIT || marks[pair] != NONE) {
                return;
            }
            marks[pair] = mark;
            pairs[pairCount] = pair;
            origins[pairCount] = origin;
            pairCount++;
        }

        /**
         * The place of the nearest claim whose HEADS do not go, or NONE. Every claim asks
         * for all the claims below it, so x is under y if and only if none of them fails.
         */
        int firstFailing(Graph x, Graph y, int kind) {
            start(x, y);
            meet(numberOf(0, 0, false), 1, NONE);
            for (int at = 0; at < pairCount && at < PAIR_LIMIT; at++) {
                int pair = pairs[at];
                boolean about = isAbout(pair);
                int xHead = left.headAt(leftOf(pair));
                int yHead = right.headAt(rightOf(pair));
                if (!headsGo(about ? yHead : xHead, about ? xHead : yHead, kind)) {
                    return at;
                }
                if (xHead == yHead) {
                    boolean turns = xHead == FUN && kind != BOLD && kind != SLACK;
                    meetParts(at, turns);
                }
            }
            return NONE;
        }

        private void meetParts(int at, boolean firstTurns) {
            int pair = pairs[at];
            int x = leftOf(pair);
            int y = rightOf(pair);
            int parts = left.partCount(x);
            for (int i = 0; i < parts; i++) {
                boolean about = isAbout(pair) != (firstTurns && i == 0);
                meet(numberOf(left.partAt(x, i), right.partAt(y, i), about), 1, 2 * at + i);
            }
        }

        private static boolean headsGo(int low, int high, int kind) {
            if (low == high) {
                return true;
            }
            if (kind != BARE && (low == VOID || high == ANY)) {
                return true;
            }
            if (low == INT && high == NUM) {
                return kind != STIFF && kind != BARE;
            }
            return kind == SLACK && low == NUM && high == INT;
        }

        int stepCount(int place) {
            int steps = 0;
            int at = place;
            while (at >= 0 && at < pairCount && origins[at] != NONE && steps < PAIR_LIMIT) {
                at = origins[at] / 2;
                steps++;
            }
            return steps;
        }

        /** The step that has so many behind it on the way to the pair at that place. */
        int lastStep(int place, int behind) {
            int at = place;
            for (int gone = 0; gone < behind && at > 0 && at < pairCount; gone++) {
                at = origins[at] / 2;
            }
            return at > 0 && at < pairCount ? origins[at] % 2 : 0;
        }

        boolean sameDownTo(Graph x, Graph y, int steps) {
            start(x, y);
            meet(numberOf(0, 0, false), 1, NONE);
            int at = 0;
            for (int step = 0; step <= steps; step++) {
                int end = pairCount;
                for (; at < end; at++) {
                    int pair = pairs[at];
                    if (left.headAt(leftOf(pair)) != right.headAt(rightOf(pair))) {
                        return false;
                    }
                    meetParts(at, false);
                }
            }
            return true;
        }

        /** The least type above both (up) or the greatest below both; null if it is too large. */
        Graph boundOf(Graph x, Graph y, boolean up, Bench bench) {
            start(x, y);
            bench.start();
            bench.putAll(x);
            bench.putAll(y);
            int root = boundNode(0, 0, up, bench);
            for (int at = 0; at < pairCount && at < PAIR_LIMIT; at++) {
                int pair = pairs[at];
                int xNode = leftOf(pair);
                int yNode = rightOf(pair);
                boolean upHere = !isAbout(pair);
                int head = left.headAt(xNode);
                int parts = head == right.headAt(yNode) ? partsOf(head) : 0;
                for (int i = 0; i < parts; i++) {
                    boolean upThere = upHere != (head == FUN && i == 0);
                    int part = boundNode(left.partAt(xNode, i), right.partAt(yNode, i), upThere, bench);
                    bench.link(marks[pair], i, part);
                }
            }
            return bench.smallest(root);
        }

        /** The bench holds the left graph from 0 on, then the right one, then the bounds of pairs. */
        private int boundNode(int x, int y, boolean up, Bench bench) {
            int xHead = left.headAt(x);
            int yHead = right.headAt(y);
            int givesWay = up ? VOID : ANY;
            if (xHead == givesWay) {
                return left.size + y;
            }
            if (yHead == givesWay) {
                return x;
            }
            int pair = numberOf(x, y, !up);
            if (pair < 0 || pair >= PAIR_LIMIT) {
                return 0;
            }
            if (marks[pair] == NONE) {
                meet(pair, bench.put(boundHead(xHead, yHead, up), 0, 0), NONE);
            }
            return marks[pair];
        }

        private static int boundHead(int xHead, int yHead, boolean up) {
            if (xHead == yHead) {
                return xHead;
            }
            if (xHead == INT && yHead == NUM || xHead == NUM && yHead == INT) {
                return up ? NUM : INT;
            }
            return up ? ANY : VOID;
        }
    }

    /** What is counted and found in graphs. */
    private static final class Measures {
        private final int[] values;
        private final int[] matches;
        private final int[] queue;
        /** The nodes that a node reaches by one step or more, as bits. */
        private final long[] below;

        Measures() {
            values = new int[SIZE_LIMIT];
            matches = new int[SIZE_LIMIT];
            queue = new int[SIZE_LIMIT];
            below = new long[SIZE_LIMIT];
        }

        /** The node of the whole whose type is the piece's, or NONE. */
        int placeOf(Graph whole, Graph piece) {
            for (int node = 0; node < whole.size; node++) {
                if (alikeAt(whole, node, piece, 0)) {
                    return node;
                }
            }
            return NONE;
        }

        int commonCount(Graph x, Graph y) {
            int common = 0;
            for (int node = 0; node < x.size; node++) {
                if (isAmong(x, node, y)) {
                    common++;
                }
            }
            return common;
        }

        private boolean isAmong(Graph x, int node, Graph y) {
            for (int other = 0; other < y.size; other++) {
                if (alikeAt(x, node, y, other)) {
                    return true;
                }
            }
            return false;
        }

        /** In a smallest graph alike nodes are one node, so each node of y has one match at most. */
        private boolean alikeAt(Graph x, int xRoot, Graph y, int yRoot) {
            fillRow(matches, y.size, NONE);
            matches[yRoot] = xRoot;
            queue[0] = yRoot;
            int found = 1;
            for (int at = 0; at < found; at++) {
                int yNode = queue[at];
                int xNode = matches[yNode];
                if (x.headAt(xNode) != y.headAt(yNode)) {
                    return false;
                }
                int parts = y.partCount(yNode);
                for (int i = 0; i < parts; i++) {
                    int yPart = y.partAt(yNode, i);
                    int xPart = x.partAt(xNode, i);
                    if (matches[yPart] == NONE && found < SIZE_LIMIT) {
                        matches[yPart] = xPart;
                        queue[found] = yPart;
                        found++;
                    } else if (matches[yPart] != xPart) {
                        return false;
                    }
                }
            }
            return true;
        }

        /** Nodes are numbered nearest first, so each has its count before its parts need it. */
        int stepsTo(Graph graph, int place) {
            if (place < 0 || place >= graph.size) {
                return NONE;
            }
            fillRow(values, graph.size, NONE);
            values[0] = 0;
            for (int node = 0; node < graph.size; node++) {
                int parts = graph.partCount(node);
                for (int i = 0; i < parts; i++) {
                    int part = graph.partAt(node, i);
                    if (values[part] == NONE) {
                        values[part] = values[node] + 1;
                    }
                }
            }
            return values[place];
        }

        int signsAt(Graph graph, int place) {
            if (place < 0 || place >= graph.size) {
                return 0;
            }
            fillRow(values, graph.size, 0);
            values[0] = 1;
            // Each round that changes anything adds one of two bits to a node.
            boolean changed = true;
            for (int round = 0; changed && round <= 2 * SIZE_LIMIT; round++) {
                changed = false;
                for (int node = 0; node < graph.size; node++) {
                    changed |= passSigns(graph, node);
                }
            }
            return values[place];
        }

        private boolean passSigns(Graph graph, int node) {
            boolean changed = false;
            int head = graph.headAt(node);
            int parts = partsOf(head);
            for (int i = 0; i < parts; i++) {
                int signs = values[node];
                if (head == FUN && i == 0) {
                    signs = (signs & 1) << 1 | signs >> 1;
                }
                int part = graph.partAt(node, i);
                if ((values[part] | signs) != values[part]) {
                    values[part] |= signs;
                    changed = true;
                }
            }
            return changed;
        }

        int loopCount(Graph graph) {
            for (int node = 0; node < graph.size; node++) {
                below[node] = 0;
                int parts = graph.partCount(node);
                for (int i = 0; i < parts; i++) {
                    below[node] |= 1L << graph.partAt(node, i);
                }
            }
            for (int by = 0; by < graph.size; by++) {
                for (int node = 0; node < graph.size; node++) {
                    if ((below[node] >> by & 1) == 1) {
                        below[node] |= below[by];
                    }
                }
            }
            int loops = 0;
            for (int node = 0; node < graph.size; node++) {
                loops += (int) (below[node] >> node & 1);
            }
            return loops;
        }

        int longestWay(Graph graph) {
            if (loopCount(graph) > 0) {
                return NONE;
            }
            fillRow(values, graph.size, 0);
            // A way without loops passes each node once at most.
            for (int round = 0; round < graph.size; round++) {
                for (int node = 0; node < graph.size; node++) {
                    int parts = graph.partCount(node);
                    for (int i = 0; i < parts; i++) {
                        values[node] = Math.max(values[node], 1 + values[graph.partAt(node, i)]);
                    }
                }
            }
            return values[0];
        }

        int treeHeads(Graph graph) {
            if (loopCount(graph) > 0) {
                return NONE;
            }
            fillRow(values, graph.size, 1);
            for (int round = 0; round < graph.size; round++) {
                for (int node = 0; node < graph.size; node++) {
                    int sum = 1;
                    int parts = graph.partCount(node);
                    for (int i = 0; i < parts; i++) {
                        sum += values[graph.partAt(node, i)];
                    }
                    values[node] = Math.min(COUNT_LIMIT, sum);
                }
            }
            return values[0];
        }

        /** NONE stays with those that have no value that ends. */
        int leastValue(Graph graph) {
            fillRow(values, graph.size, NONE);
            boolean changed = true;
            for (int round = 0; changed && round <= SIZE_LIMIT; round++) {
                changed = false;
                for (int node = 0; node < graph.size; node++) {
                    if (values[node] == NONE) {
                        values[node] = leastHere(graph, node);
                        changed |= values[node] != NONE;
                    }
                }
            }
            return values[0];
        }

        private int leastHere(Graph graph, int node) {
            int head = graph.headAt(node);
            if (head == VOID) {
                return NONE;
            }
            if (head != PAIR) {
                return 1;
            }
            int first = values[graph.partAt(node, 0)];
            int second = values[graph.partAt(node, 1)];
            if (first == NONE || second == NONE) {
                return NONE;
            }
            return Math.min(COUNT_LIMIT, 1 + first + second);
        }
    }

    /** Reads a text's equations; brackets are kept in rows, so that deep ones need no deep calls. */
    private static final class Reader {
        private static final int AT_LETTER = 0, AT_EQUALS = 1, AT_ATOM = 2, BEHIND_ATOM = 3;
        /** Stands as HEAD of a node that is a letter: PART 0 is the letter, PART 1 its place. */
        private static final int LETTER = HEAD_KINDS;

        private int state;
        private int letter;
        private final int[] heads;
        private final int[] firsts;
        private final int[] seconds;
        private int nodeCount;
        private final int[] operands;
        private int operandCount;
        private final int[] operators;
        private int operatorCount;
        private final int[] letters;
        private int letterCount;
        /** For each letter the node of its term (NONE: not told) and its place. */
        private final int[] terms;
        private final int[] places;
        /** Where nodes, and the types of letters not told, stand on the bench. */
        private final int[] benchNodes;
        private final int[] benchLetters;

        Reader() {
            heads = new int[TEXT_LIMIT];
            firsts = new int[TEXT_LIMIT];
            seconds = new int[TEXT_LIMIT];
            operands = new int[TEXT_LIMIT];
            operators = new int[TEXT_LIMIT];
            letters = new int[NAME_COUNT];
            terms = new int[NAME_COUNT];
            places = new int[NAME_COUNT];
            benchNodes = new int[TEXT_LIMIT];
            benchLetters = new int[NAME_COUNT];
        }

        int equationCount() {
            return letterCount;
        }

        int letterOf(int equation) {
            return equation >= 0 && equation < letterCount ? letters[equation] : 0;
        }

        /** The place of the text's FAULT, or NONE. */
        int faultOf(int[] text, int length, Graph[] names) {
            state = AT_LETTER;
            nodeCount = 0;
            operandCount = 0;
            operatorCount = 0;
            letterCount = 0;
            fillRow(terms, NAME_COUNT, NONE);
            fillRow(places, NAME_COUNT, NONE);
            for (int at = 0; at < length && at < text.length; at++) {
                if (text[at] != ' ' && !takes(text[at], at)) {
                    return at;
                }
            }
            if (state != AT_LETTER || letterCount == 0) {
                return length;
            }
            int strange = strangeLetter(names);
            return strange != NONE ? strange : emptyLetter();
        }

        private static boolean isLetter(int c) {
            return c >= 'a' && c <= 'h';
        }

        private boolean takes(int c, int at) {
            switch (state) {
                case AT_LETTER: return takesLetter(c, at);
                case AT_EQUALS:
                    state = AT_ATOM;
                    return c == '=';
                case AT_ATOM: return takesAtom(c, at);
                default: return takesBehind(c);
            }
        }

        private boolean takesLetter(int c, int at) {
            if (!isLetter(c) || places[c - 'a'] != NONE || letterCount >= NAME_COUNT) {
                return false;
            }
            letter = c - 'a';
            places[letter] = at;
            letters[letterCount] = letter;
            letterCount++;
            state = AT_EQUALS;
            return true;
        }

        private boolean takesAtom(int c, int at) {
            if (c == '[' || c == '(') {
                return pushOperator(c);
            }
            state = BEHIND_ATOM;
            if (c >= '0' && c <= '3') {
                return pushOperand(newNode(c - '0', 0, 0));
            }
            return isLetter(c) && pushOperand(newNode(LETTER, c - 'a', at));
        }

        private boolean takesBehind(int c) {
            switch (c) {
                case '*': case '>':
                    joinPairs();
                    state = AT_ATOM;
                    return pushOperator(c);
                case ')':
                    joinAll();
                    return popOperator('(');
                case ']':
                    joinAll();
                    return popOperator('[') && pushOperand(newNode(ROW, popOperand(), 0));
                case ';':
                    joinAll();
                    return endEquation();
                default: return false;
            }
        }

        private boolean endEquation() {
            if (operatorCount != 0 || operandCount != 1) {
                return false;
            }
            terms[letter] = popOperand();
            state = AT_LETTER;
            return true;
        }

        /** Of operators only * binds at once: > waits for all that is behind it. */
        private void joinPairs() {
            for (int round = 0; round < TEXT_LIMIT && topOperator() == '*'; round++) {
                joinTwo(PAIR);
            }
        }

        /** No * stands ahead of a > of the same brackets any more: what is left binds from the right. */
        private void joinAll() {
            int top = topOperator();
            for (int round = 0; round < TEXT_LIMIT && (top == '*' || top == '>'); round++) {
                joinTwo(top == '*' ? PAIR : FUN);
                top = topOperator();
            }
        }

        private void joinTwo(int head) {
            operatorCount--;
            int second = popOperand();
            int first = popOperand();
            pushOperand(newNode(head, first, second));
        }

        private int topOperator() {
            return operatorCount > 0 ? operators[operatorCount - 1] : NONE;
        }

        private boolean pushOperator(int c) {
            if (operatorCount >= TEXT_LIMIT) {
                return false;
            }
            operators[operatorCount] = c;
            operatorCount++;
            return true;
        }

        private boolean popOperator(int c) {
            if (topOperator() != c) {
                return false;
            }
            operatorCount--;
            return true;
        }

        private boolean pushOperand(int node) {
            if (operandCount >= TEXT_LIMIT) {
                return false;
            }
            operands[operandCount] = node;
            operandCount++;
            return true;
        }

        private int popOperand() {
            if (operandCount == 0) {
                return 0;
            }
            operandCount--;
            return operands[operandCount];
        }

        private int newNode(int head, int first, int second) {
            if (nodeCount >= TEXT_LIMIT) {
                return 0;
            }
            int node = nodeCount;
            heads[node] = head;
            firsts[node] = first;
            seconds[node] = second;
            nodeCount++;
            return node;
        }

        /** The place of the first letter in a term that has no type and is not told, or NONE. */
        private int strangeLetter(Graph[] names) {
            for (int node = 0; node < nodeCount; node++) {
                if (heads[node] == LETTER) {
                    int name = firsts[node];
                    if (terms[name] == NONE && names[name] == null) {
                        return seconds[node];
                    }
                }
            }
            return NONE;
        }

        /** The place of the first letter told that stands for itself by letters alone, or NONE. */
        private int emptyLetter() {
            for (int at = 0; at < letterCount; at++) {
                int name = letters[at];
                int next = letterBehind(name);
                for (int hop = 0; hop < NAME_COUNT && next != NONE && next != name; hop++) {
                    next = letterBehind(next);
                }
                if (next == name) {
                    return places[name];
                }
            }
            return NONE;
        }

        /** The letter that the term of a letter is, or NONE. */
        private int letterBehind(int name) {
            int term = terms[name];
            return term != NONE && heads[term] == LETTER ? firsts[term] : NONE;
        }

        /** Lays the terms out on the bench, with the types of letters that are not told. */
        void layOut(Bench bench, Graph[] names) {
            bench.start();
            for (int name = 0; name < NAME_COUNT; name++) {
                boolean needed = terms[name] == NONE && names[name] != null;
                benchLetters[name] = needed ? bench.putAll(names[name]) : NONE;
            }
            for (int node = 0; node < nodeCount; node++) {
                benchNodes[node] = heads[node] == LETTER ? NONE : bench.put(heads[node], 0, 0);
            }
            for (int node = 0; node < nodeCount; node++) {
                int parts = heads[node] == LETTER ? 0 : partsOf(heads[node]);
                for (int i = 0; i < parts; i++) {
                    bench.link(benchNodes[node], i, standsFor(i == 0 ? firsts[node] : seconds[node]));
                }
            }
        }

        int rootOf(int equation) {
            return standsFor(terms[letterOf(equation)]);
        }

        /** The bench's node for a node of the terms, letters followed to what they stand for. */
        private int standsFor(int node) {
            int at = node;
            for (int hop = 0; hop <= NAME_COUNT && at >= 0 && at < nodeCount; hop++) {
                if (heads[at] != LETTER) {
                    return benchNodes[at];
                }
                int name = firsts[at];
                if (terms[name] == NONE) {
                    return benchLetters[name];
                }
                at = terms[name];
            }
            return NONE;
        }
    }
}
