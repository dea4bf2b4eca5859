import java.util.ArrayDeque;
import java.util.ArrayList;
import java.util.List;

/** The edges of the promises 22 to 30: base, make, part, copy, bound, swap, cut, turn, draw. */
public final class EdgesOfNewTypes {
    public static void main(String[] args) {
        bases();
        makes();
        makesAtTheLimit();
        parts();
        copies();
        boundsOfHeads();
        boundsAtTheLimit();
        swaps();
        swapsAtTheLimit();
        cuts();
        cutsAtTheLimit();
        turns();
        draws();
        drawsByHand();
        Edges.end("edges of new types");
    }

    private static void bases() {
        Edges.sentence("NAME to has the HEAD 0 .. 3: 1");
        LoopTypes x = new LoopTypes();
        for (int head = 0; head < 4; head++) {
            for (int to = 0; to < 8; to++) {
                Edges.answers(x, "base(" + head + ", " + to + ")", 1);
                Edges.answers(x, "code(" + to + ")", 31 + head);
            }
        }
        Edges.sentence("base: BAD");
        Edges.bad(States::rich, "base(-1, 0)", "base(4, 0)", "base(6, 0)", "base(0, -1)", "base(3, 8)");
        Edges.badAtEach(LoopTypes::new, "base(0, 0)");
    }

    private static void makes() {
        Edges.sentence("NAME to has the HEAD 4 .. 6, PARTS a (and b");
        LoopTypes x = Edges.having("a=1;b=[2];");
        String[] terms = {"[1]", "1*[2]", "1>[2]"};
        for (int head = 4; head < 7; head++) {
            Edges.answers(x, "make(" + head + ", 0, 1, 7)", head == 4 ? 2 : 4);
            Edges.isType(x, 7, terms[head - 4]);
        }
        Edges.bad(States::rich, "make(3, 0, 1, 2)", "make(0, 0, 1, 2)", "make(7, 0, 1, 2)");
        Edges.sentence("of a ROW b counts not");
        LoopTypes large = Edges.having("a=1;b=" + Edges.rows(39, "2") + ";");
        Edges.answers(large, "make(4, 0, 1, 2)", 2);
        Edges.isType(large, 2, "[1]");
        Edges.sentence("of a ROW b counts not, yet needs a TYPE");
        Edges.bad(States::rich, "make(4, 0, 7, 0)", "make(4, 0, 8, 0)", "make(4, 0, -1, 0)", "make(4, 7, 0, 0)");
        Edges.bad(() -> Edges.having("a=1;"), "make(4, 0, 1, 0)", "make(5, 0, 7, 0)", "make(6, 1, 0, 0)");
    }

    private static void makesAtTheLimit() {
        Edges.sentence("make: FULL: 40 and 41");
        String ones = "a=" + Edges.rows(19, "1") + ";b=";
        LoopTypes x = Edges.having(ones + Edges.rows(18, "2") + ";");
        Edges.answers(x, "make(5, 0, 1, 7)", 40);
        Edges.answers(x, "make(6, 1, 0, 7)", 40);
        Edges.full(() -> Edges.having(ones + Edges.rows(19, "2") + ";"), "make(5, 0, 1, 7)", "make(6, 0, 1, 0)", "make(5, 1, 0, 1)");
        LoopTypes row = Edges.having("a=" + Edges.rows(38, "1") + ";");
        for (int head = 4; head < 7; head++) {
            Edges.answers(row, "make(" + head + ", 0, 0, 7)", 40);
        }
        Edges.full(() -> Edges.having("a=" + Edges.rows(39, "1") + ";", "b=1;"), "make(4, 0, 0, 7)", "make(4, 0, 1, 0)",
            "make(5, 0, 0, 7)", "make(6, 0, 1, 7)", "make(6, 1, 0, 0)");
        Edges.sentence("make: SIZE 40, for what is made is among its own PARTS");
        LoopTypes loop = Edges.having("a=b*b;b=" + Edges.rows(39, "a") + ";");
        Edges.answers(loop, "make(4, 0, 0, 7)", 40);
        Edges.answers(loop, "make(5, 1, 1, 6)", 40);
        Edges.answers(loop, "alike(0, 6)", 1);
        Edges.answers(loop, "make(5, 0, 0, 5)", -4);
        Edges.answers(loop, "make(6, 1, 1, 5)", -4);
        Edges.answers(loop, "make(4, 1, 1, 5)", -4);
    }

    private static void parts() {
        Edges.sentence("NAME to has PART i (0, 1; another: BAD) of a");
        LoopTypes x = Edges.having("a=1*[2];b=[3]>0;c=[1];");
        Edges.answers(x, "part(0, 0, 7)", 1);
        Edges.answers(x, "part(0, 1, 7)", 2);
        Edges.answers(x, "part(1, 0, 7)", 2);
        Edges.answers(x, "part(1, 1, 7)", 1);
        Edges.bad(States::rich, "part(0, 2, 7)", "part(0, -1, 7)", "part(3, 2, 7)", "part(3, -1, 7)", "part(4, 2, 7)");
        Edges.sentence("NO: a has no such PART");
        for (int name = 3; name < 7; name++) {
            String base = "abcdefg".charAt(name) + "=" + (name - 3) + ";";
            Edges.no(() -> Edges.having(base), "part(" + name + ", 0, 0)", "part(" + name + ", 1, " + name + ")");
        }
        Edges.no(() -> Edges.having("c=[1];"), "part(2, 1, 0)");
        Edges.sentence("part: SIZE: as large as the whole");
        LoopTypes loop = Edges.having("a=" + Edges.rows(39, "a*a") + ";");
        for (int step = 0; step < 40; step++) {
            Edges.answers(loop, "part(0, 0, 0)", 40);
        }
        Edges.isType(loop, 0, Edges.rows(39, "a*a"));
        Edges.answers(loop, "told(2)", 0);
    }

    private static void copies() {
        Edges.sentence("NAME to has the TYPE of a: SIZE");
        LoopTypes x = Edges.having("a=" + Edges.rows(39, "1") + ";", "h=1;");
        Edges.answers(x, "copy(0, 1)", 40);
        Edges.answers(x, "copy(7, 2)", 1);
        Edges.answers(x, "copy(0, 0)", 40);
        Edges.answers(x, "copy(0, 7)", 40);
        Edges.answers(x, "alike(0, 7)", 1);
        Edges.sentence("copy: what is told to the one later is not told to the other");
        Edges.answers(x, "base(2, 0)", 1);
        Edges.answers(x, "size(1)", 40);
        Edges.answers(x, "size(7)", 40);
    }

    private static void boundsOfHeads() {
        Edges.sentence("HEADS that do not go make ANY, VOID; INT and NUM make NUM, INT");
        String[] heads = {"0", "1", "2", "3", "[1]", "1*1", "1>1"};
        for (int a = 0; a < 7; a++) {
            for (int b = 0; b < 7; b++) {
                LoopTypes x = Edges.having("a=" + heads[a] + ";b=" + heads[b] + ";");
                int low = Math.min(a, b);
                boolean numbers = low == 1 && Math.max(a, b) == 2;
                int above = a == b ? a : low == 0 ? a + b : numbers ? 2 : 3;
                int below = a == b ? a : a == 3 ? b : b == 3 ? a : numbers ? 1 : 0;
                x.bound(1, 0, 1, 2);
                x.bound(0, 0, 1, 3);
                Edges.isType(x, 2, heads[above]);
                Edges.isType(x, 3, heads[below]);
            }
        }
        Edges.sentence("of FUNS PART 0 is the other way");
        LoopTypes x = Edges.having("a=(1>1)>1;b=(2>2)>2;c=(2>1)>2;d=(1>2)>1;e=([1]>0)>[1];f=(1>3)>1;");
        x.bound(1, 0, 1, 6);
        Edges.isType(x, 6, "(2>1)>2");
        x.bound(0, 0, 1, 6);
        Edges.isType(x, 6, "(1>2)>1");
        x.bound(1, 4, 5, 6);
        Edges.isType(x, 6, "(3>0)>3");
        x.bound(0, 4, 5, 6);
        Edges.isType(x, 6, "(0>3)>0");
        Edges.sentence("the least TYPE above both by FULL (up 1), the greatest below both (0): by FULL, whatever THE ORDER");
        for (int kind = 0; kind < 5; kind++) {
            x.order(kind);
            x.bound(1, 2, 3, 6);
            Edges.isType(x, 6, "(2>1)>2");
            x.bound(0, 2, 3, 6);
            Edges.isType(x, 6, "(1>2)>1");
        }
        Edges.bad(States::rich, "bound(2, 0, 1, 7)", "bound(-1, 0, 1, 7)");
    }

    private static LoopTypes periods(int rows) {
        return Edges.having(Edges.pairLoop('a', "1111112"), Edges.pairLoop('b', "11112"),
            "a=" + Edges.rows(rows, "c") + ";" + Edges.pairLoop('c', "1111112"),
            "b=" + Edges.rows(rows, "c") + ";" + Edges.pairLoop('c', "11112"));
    }

    private static void boundsAtTheLimit() {
        Edges.sentence("bound: FULL: 40 and 41");
        for (int up = 0; up < 2; up++) {
            for (int rows = 0; rows < 4; rows++) {
                Edges.answers(periods(rows), "bound(" + up + ", 0, 1, 7)", 37 + rows);
                Edges.answers(periods(rows), "bound(" + up + ", 1, 0, 0)", 37 + rows);
            }
            Edges.full(() -> periods(4), "bound(" + up + ", 0, 1, 7)", "bound(" + up + ", 1, 0, 0)");
            Edges.full(() -> periods(5), "bound(" + up + ", 0, 1, 7)");
        }
        Edges.sentence("bound: FULL by what meets anew 1406 times; not FULL by both SIZES alone");
        LoopTypes x = Edges.having(Edges.pairLoop('a', Edges.word(38, '1', 37, '2')),
            Edges.pairLoop('b', Edges.word(37, '1', 36, '2')));
        Edges.answers(x, "bound(1, 0, 1, 2)", -4);
        Edges.answers(x, "bound(0, 0, 1, 2)", -4);
        Edges.answers(x, "bound(1, 0, 0, 2)", 40);
        Edges.answers(x, "bound(0, 1, 1, 2)", 39);
        LoopTypes y = Edges.having("b=c*1;c=c*1;", "a=" + Edges.rows(38, "a*1") + ";");
        Edges.answers(y, "bound(1, 0, 1, 2)", 1);
        Edges.answers(y, "bound(0, 0, 1, 3)", 1);
        Edges.answers(y, "head(2)", 3);
        Edges.answers(y, "head(3)", 0);
        LoopTypes funs = Edges.having(Edges.funLoop('a', Edges.word(38, '1', 37, '2')), Edges.funLoop('b', Edges.word(37, '0', 36, '0')));
        Edges.answers(funs, "bound(0, 0, 1, 2)", 40);
        Edges.answers(funs, "alike(0, 2)", 1);
        Edges.answers(funs, "bound(1, 0, 1, 2)", 2);
        Edges.isType(funs, 2, "0>a");
    }

    private static void swaps() {
        Edges.sentence("NAME to has a with c in place of each PART ALIKE b that is reached first (a itself, too");
        LoopTypes x = Edges.having("a=[1]*(1>[1]);b=1;c=[1];d=2;e=[e];f=3;g=a*c;");
        Edges.answers(x, "swap(0, 0, 3, 7)", 1);
        Edges.isType(x, 7, "2");
        Edges.answers(x, "swap(0, 1, 3, 7)", 4);
        Edges.isType(x, 7, "[2]*(2>[2])");
        Edges.answers(x, "swap(0, 2, 3, 7)", 4);
        Edges.isType(x, 7, "2*(1>2)");
        Edges.answers(x, "swap(0, 5, 3, 7)", 4);
        Edges.answers(x, "alike(0, 7)", 1);
        Edges.answers(x, "swap(0, 3, 3, 7)", 4);
        Edges.sentence("(a itself, too; what is below c is left as it is)");
        Edges.answers(x, "swap(2, 1, 2, 7)", 3);
        Edges.isType(x, 7, "[[1]]");
        Edges.answers(x, "swap(1, 1, 0, 7)", 4);
        Edges.answers(x, "alike(7, 0)", 1);
        Edges.answers(x, "swap(6, 2, 6, 7)", 8);
        String g = "([1]*(1>[1])*[1])";
        Edges.isType(x, 7, g + "*(1>" + g + ")*" + g);
        Edges.sentence("swap: in a loop, by the loop itself, by what holds it");
        Edges.answers(x, "swap(4, 4, 1, 7)", 1);
        Edges.isType(x, 7, "1");
        Edges.answers(x, "swap(4, 1, 0, 7)", 1);
        Edges.isType(x, 7, "[a]");
        Edges.answers(x, "swap(2, 1, 4, 7)", 1);
        Edges.isType(x, 7, "[a]");
        Edges.answers(x, "swap(2, 1, 2, 2)", 3);
        Edges.isType(x, 2, "[[1]]");
        LoopTypes loop = Edges.having("a=1*(2*a);b=2*a;c=3;");
        Edges.answers(loop, "swap(0, 1, 2, 7)", 3);
        Edges.isType(loop, 7, "1*3");
        Edges.answers(loop, "swap(1, 1, 0, 6)", 4);
        Edges.answers(loop, "alike(6, 0)", 1);
    }

    private static void swapsAtTheLimit() {
        Edges.sentence("swap: FULL: 40 and 41");
        LoopTypes x = Edges.having("a=" + Edges.rows(19, "1") + ";b=1;", "c=" + Edges.rows(20, "2") + ";");
        Edges.answers(x, "swap(0, 1, 2, 7)", 40);
        Edges.full(() -> Edges.having("a=" + Edges.rows(19, "1") + ";b=1;", "c=" + Edges.rows(21, "2") + ";"),
            "swap(0, 1, 2, 7)", "swap(0, 1, 2, 0)");
        Edges.full(() -> Edges.having("a=" + Edges.rows(39, "1") + ";b=1;"), "swap(0, 1, 0, 7)");
        Edges.sentence("swap: not FULL, for what is left is SIZE 40 at most");
        LoopTypes y = Edges.having("a=" + Edges.rows(39, "1") + ";b=1;", "c=" + Edges.rows(39, "2") + ";");
        Edges.answers(y, "swap(0, 0, 2, 7)", 40);
        Edges.answers(y, "swap(0, 2, 2, 7)", 40);
        Edges.answers(y, "swap(0, 1, 2, 7)", -4);
        Edges.answers(y, "swap(1, 1, 0, 7)", 40);
        Edges.answers(y, "swap(0, 1, 1, 7)", 40);
        Edges.answers(y, "told(2)", 1);
    }

    private static void cuts() {
        Edges.sentence("NAME to has a with ANY in place of all that is reached by n (0 .. 9) STEPS: 0");
        LoopTypes x = Edges.having("a=" + Edges.rows(9, "1") + ";b=" + Edges.rows(8, "1") + ";c=0;d=[d];e=3;");
        for (int name = 0; name < 5; name++) {
            Edges.answers(x, "cut(" + name + ", 0, 7)", 1);
            Edges.isType(x, 7, "3");
            Edges.answers(x, "cut(" + name + ", 1, 7)", name == 2 || name == 4 ? 1 : 2);
            Edges.isType(x, 7, name == 2 ? "0" : name == 4 ? "3" : "[3]");
        }
        Edges.sentence("all that is reached by n (0 .. 9) STEPS: 9");
        Edges.answers(x, "cut(0, 9, 7)", 10);
        Edges.isType(x, 7, Edges.rows(9, "3"));
        Edges.answers(x, "cut(1, 9, 7)", 9);
        Edges.isType(x, 7, Edges.rows(8, "1"));
        Edges.answers(x, "cut(1, 8, 7)", 9);
        Edges.isType(x, 7, Edges.rows(8, "3"));
        for (int n = 0; n < 10; n++) {
            Edges.answers(x, "cut(3, " + n + ", 7)", n + 1);
            Edges.isType(x, 7, Edges.rows(n, "3"));
        }
        Edges.sentence("all that is reached by n STEPS: by one way, though by another there are fewer");
        LoopTypes y = Edges.having("a=[b]*b;b=[1]*2;");
        Edges.answers(y, "cut(0, 3, 7)", 7);
        Edges.isType(y, 7, "[3*3]*([3]*2)");
        Edges.bad(States::rich, "cut(0, 10, 7)", "cut(0, -1, 7)");
    }

    private static LoopTypes drawnInRows(int seed, int rows) {
        LoopTypes x = new LoopTypes();
        x.draw(seed, 12, 0);
        for (int row = 0; row < rows; row++) {
            x.make(4, 0, 0, 0);
        }
        return x;
    }

    private static void cutsAtTheLimit() {
        Edges.sentence("cut: FULL: 40 and 41");
        // What is cut off one row and one step farther down is a row of it, and so larger by one.
        Edges.answers(drawnInRows(32025, 0), "cut(0, 8, 7)", 39);
        Edges.answers(drawnInRows(32025, 1), "cut(0, 9, 7)", 40);
        Edges.answers(drawnInRows(834358, 0), "cut(0, 7, 7)", 38);
        Edges.answers(drawnInRows(834358, 2), "cut(0, 9, 7)", 40);
        for (int seed : new int[] {51545, 139065}) {
            Edges.answers(drawnInRows(seed, 0), "cut(0, 8, 7)", 40);
            Edges.full(() -> drawnInRows(seed, 1), "cut(0, 9, 7)", "cut(0, 9, 0)");
        }
    }

    private static void turns() {
        Edges.sentence("NAME to has a with PARTS 0 and 1 of all PAIRS (head 5), of all FUNS (6) changed about");
        LoopTypes x = Edges.having("a=(1*2)>[2*(1>3)];b=0;c=c*1;d=d>d;");
        Edges.answers(x, "turn(0, 5, 7)", 8);
        Edges.isType(x, 7, "(2*1)>[(1>3)*2]");
        Edges.answers(x, "turn(0, 6, 7)", 8);
        Edges.isType(x, 7, "[2*(3>1)]>(1*2)");
        for (int head = 5; head < 7; head++) {
            Edges.answers(x, "turn(1, " + head + ", 7)", 1);
            Edges.answers(x, "alike(1, 7)", 1);
            Edges.answers(x, "turn(3, " + head + ", 7)", 1);
            Edges.answers(x, "alike(3, 7)", 1);
            Edges.answers(x, "turn(2, " + head + ", 7)", 2);
            Edges.isType(x, 7, head == 5 ? "1*a" : "a*1");
        }
        Edges.bad(States::rich, "turn(0, 4, 7)", "turn(0, 7, 7)");
        Edges.sentence("turn: SIZE 40");
        LoopTypes large = Edges.having(Edges.pairLoop('a', Edges.word(38, '1', 37, '2')));
        Edges.answers(large, "turn(0, 5, 1)", 40);
        Edges.answers(large, "alike(0, 1)", 0);
        Edges.answers(large, "turn(1, 5, 1)", 40);
        Edges.answers(large, "alike(0, 1)", 1);
        Edges.answers(large, "turn(0, 6, 1)", 40);
        Edges.answers(large, "alike(0, 1)", 1);
    }

    /** THE CODE of a drawn type, by trees of text cut off far down: alike nodes have like trees there. */
    private static long drawnCode(int seed, int n) {
        int[] heads = new int[n];
        int[][] parts = new int[n][2];
        long x = seed;
        for (int node = 0; node < n; node++) {
            x = (x * 1103515245L + 12345L) % 2147483648L;
            heads[node] = (int) (x / 65536 % 7);
            parts[node] = new int[] {(int) (x / 1024 % n), (int) (x / 32768 % n)};
        }
        int[] groups = new int[n];
        for (int round = 0; round <= n; round++) {
            List<String> told = new ArrayList<>();
            int[] next = new int[n];
            for (int node = 0; node < n; node++) {
                String tree = heads[node] + (heads[node] > 3 ? "," + groups[parts[node][0]] : "")
                    + (heads[node] > 4 ? "," + groups[parts[node][1]] : "");
                if (!told.contains(tree)) {
                    told.add(tree);
                }
                next[node] = told.indexOf(tree);
            }
            groups = next;
        }
        return codeFrom(heads, parts, groups);
    }

    private static long codeFrom(int[] heads, int[][] parts, int[] groups) {
        List<Integer> numbers = new ArrayList<>(List.of(groups[0]));
        ArrayDeque<Integer> waiting = new ArrayDeque<>(List.of(0));
        long h = 1;
        while (!waiting.isEmpty()) {
            int node = waiting.poll();
            h = 31 * h + heads[node];
            for (int i = 0; i < Math.max(0, Math.min(2, heads[node] - 3)); i++) {
                int part = parts[node][i];
                if (!numbers.contains(groups[part])) {
                    numbers.add(groups[part]);
                    waiting.add(part);
                }
                h = 31 * h + numbers.indexOf(groups[part]);
            }
        }
        return h;
    }

    private static void draws() {
        Edges.sentence("n (1 .. 12) NODES; X is SEED (0 .. 999999) at first");
        int[] seeds = {0, 1, 2, 3, 32767, 32768, 65535, 65536, 500000, 834358, 999998, 999999};
        for (int seed : seeds) {
            for (int n = 1; n <= 12; n++) {
                LoopTypes x = new LoopTypes();
                x.draw(seed, n, 7);
                Edges.due("code of draw(" + seed + ", " + n + ", 7)", x.code(7), drawnCode(seed, n));
            }
        }
        for (int seed = 0; seed < 1000000; seed += 97) {
            LoopTypes x = new LoopTypes();
            x.draw(seed, 12, 0);
            Edges.due("code of draw(" + seed + ", 12, 0)", x.code(0), drawnCode(seed, 12));
        }
        Edges.sentence("draw: BAD");
        Edges.bad(States::rich, "draw(-1, 1, 0)", "draw(1000000, 1, 0)", "draw(0, 0, 0)", "draw(0, 13, 0)", "draw(0, -1, 0)",
            "draw(0, 1, -1)", "draw(0, 1, 8)", "draw(-2147483648, 12, 0)", "draw(2147483647, 12, 0)");
    }

    private static void drawsByHand() {
        Edges.sentence("then its HEAD is X by 65536 (cut), by 7 left over");
        // SEED 0: X = 12345: HEAD 0.
        LoopTypes x = new LoopTypes();
        Edges.answers(x, "draw(0, 12, 0)", 1);
        Edges.answers(x, "head(0)", 0);
        Edges.sentence("the TYPE is NODE 0's: SIZE");
        // SEED 2: X = 59559187, HEAD 5, of 12 NODES the PARTS 58163 and 1817: NODES 11 and 5.
        Edges.due("X", (2L * 1103515245 + 12345) % 2147483648L, 59559187);
        Edges.due("HEAD", 59559187 / 65536 % 7, 5);
        x.draw(2, 12, 0);
        Edges.answers(x, "head(0)", 5);
        Edges.sentence("n NODES, its PARTS the NODES X by 1024 (cut), by n left over: all itself, where n is 1");
        x.draw(2, 1, 0);
        Edges.isType(x, 0, "a*a");
        Edges.answers(x, "size(0)", 1);
    }
}
