/** The edges of the promises 12 to 21: size, head, code, deep, heads, many, looping, filled, least, signs. */
public final class EdgesOfOneType {
    public static void main(String[] args) {
        refused();
        sizes();
        codes();
        deeps();
        headsToTheLimit();
        manies();
        loops();
        filled();
        leastToTheLimit();
        signs();
        signsFarDown();
        Edges.end("edges of one type");
    }

    private static void refused() {
        Edges.sentence("one type: BAD: a NAME that has none, that is none, of each call");
        for (String call : new String[] {"size", "head", "code", "deep", "heads", "looping", "filled", "least"}) {
            Edges.badAtEach(States::rich, call + "(0)");
            Edges.badAtEach(LoopTypes::new, call + "(0)");
            Edges.badAtEach(() -> Edges.having("h=1;"), call + "(7)");
        }
        Edges.sentence("many: a HEAD (0 .. 6), BAD");
        Edges.badAtEach(States::rich, "many(0, 0)");
        Edges.sentence("signs: BAD");
        Edges.badAtEach(States::rich, "signs(0, 0)");
    }

    private static void sizes() {
        Edges.sentence("SIZE: from 1 to 40");
        LoopTypes x = new LoopTypes();
        x.base(0, 0);
        Edges.answers(x, "size(0)", 1);
        for (int size = 2; size <= 40; size++) {
            Edges.answers(x, "make(" + (4 + size % 3) + ", 0, 0, 0)", size);
            Edges.answers(x, "size(0)", size);
            Edges.answers(x, "head(0)", 4 + size % 3);
        }
    }

    private static void codes() {
        Edges.sentence("THE CODE: of SIZE 1");
        LoopTypes x = Edges.having("a=0;b=3;c=[c];d=d*d;e=e>e;");
        Edges.answers(x, "code(0)", 31);
        Edges.answers(x, "code(1)", 34);
        Edges.answers(x, "code(2)", 31 * (31 + 4));
        Edges.answers(x, "code(3)", 31 * 31 * (31 + 5));
        Edges.answers(x, "code(4)", 31 * 31 * (31 + 6));
        Edges.sentence("THE CODE: of SIZE 40, which wraps around");
        LoopTypes rows = Edges.having("a=" + Edges.rows(39, "2") + ";");
        long h = 1;
        for (int number = 1; number < 40; number++) {
            h = 31 * (31 * h + 4) + number;
        }
        Edges.answers(rows, "code(0)", 31 * h + 2);
        Edges.sentence("numbered as they come, a first, then PARTS of number 0, of number 1, and so on");
        LoopTypes y = Edges.having("a=[2*3]>(3*[a]);");
        int[] row = {6, 1, 2, 4, 3, 5, 4, 5, 5, 6, 4, 3, 4, 0, 2};
        h = 1;
        for (int v : row) {
            h = 31 * h + v;
        }
        Edges.answers(y, "code(0)", h);
    }

    private static void deeps() {
        Edges.sentence("How many STEPS the longest way down has: from 0 to 39");
        LoopTypes x = new LoopTypes();
        x.base(1, 0);
        x.base(0, 1);
        Edges.answers(x, "deep(0)", 0);
        Edges.answers(x, "deep(1)", 0);
        for (int deep = 1; deep <= 38; deep++) {
            x.make(5 + deep % 2, deep % 3 == 0 ? 1 : 0, deep % 3 == 0 ? 0 : 1, 0);
            Edges.answers(x, "deep(0)", deep);
        }
        Edges.answers(Edges.having("a=" + Edges.rows(39, "1") + ";"), "deep(0)", 39);
        Edges.sentence("deep: NONE: without end");
        LoopTypes y = Edges.having("a=[a];b=1*b;c=b>1;d=1>[d];");
        for (int name = 0; name < 4; name++) {
            Edges.answers(y, "deep(" + name + ")", -1);
            Edges.answers(y, "heads(" + name + ")", -1);
        }
        Edges.answers(Edges.having("b=[b];", "a=" + Edges.rows(29, "1*b") + ";"), "deep(0)", -1);
        LoopTypes late = Edges.having("a=" + Edges.rows(38, "b") + ";b=b*b;");
        Edges.answers(late, "size(0)", 39);
        Edges.answers(late, "deep(0)", -1);
        Edges.answers(late, "heads(0)", -1);
    }

    /** Name 0 gets a TYPE with so many HEADS: a row adds one, a pair of itself one more than doubles them. */
    private static void headsUpTo(LoopTypes x, int heads) {
        if (heads == 1) {
            x.base(1, 0);
            return;
        }
        headsUpTo(x, heads % 2 == 0 ? heads - 1 : heads / 2);
        x.make(heads % 2 == 0 ? 4 : 5, 0, 0, 0);
    }

    private static void headsToTheLimit() {
        Edges.sentence("How many HEADS the tree has (1000000 at most)");
        for (int heads : new int[] {1, 2, 3, 4, 5, 1000, 65535, 65536, 499999, 500000, 999998, 999999}) {
            LoopTypes x = new LoopTypes();
            headsUpTo(x, heads);
            Edges.answers(x, "heads(0)", heads);
        }
        for (int heads : new int[] {1000000, 1000001, 1000002, 1999999, 2000001, 16777216, 1073741825, Integer.MAX_VALUE}) {
            LoopTypes x = new LoopTypes();
            headsUpTo(x, heads);
            Edges.due("heads of a tree with " + heads, x.heads(0), 1000000);
        }
        Edges.sentence("(1000000 at most): a tree of 2 to the 40th");
        LoopTypes x = new LoopTypes();
        x.base(1, 0);
        for (int floor = 0; floor < 39; floor++) {
            x.make(6, 0, 0, 0);
        }
        Edges.answers(x, "heads(0)", 1000000);
        Edges.answers(x, "size(0)", 40);
    }

    private static void manies() {
        Edges.sentence("How many of its unlike TYPES have a HEAD (0 .. 6): none, all");
        LoopTypes x = Edges.having("a=0;b=1;c=2;d=3;e=[e];f=f*f;g=g>g;");
        for (int name = 0; name < 7; name++) {
            for (int head = 0; head < 7; head++) {
                Edges.answers(x, "many(" + name + ", " + head + ")", name == head ? 1 : 0);
            }
        }
        LoopTypes rows = Edges.having("a=" + Edges.rows(39, "1") + ";");
        Edges.answers(rows, "many(0, 4)", 39);
        Edges.answers(rows, "many(0, 1)", 1);
        Edges.answers(rows, "many(0, 5)", 0);
    }

    private static void loops() {
        Edges.sentence("How many of its unlike TYPES are reached again from themselves by one STEP or more: 0 to 40");
        LoopTypes x = Edges.having("a=0;b=[b];c=[[1]]*2;d=d>1;");
        Edges.answers(x, "looping(0)", 0);
        Edges.answers(x, "looping(1)", 1);
        Edges.answers(x, "looping(2)", 0);
        Edges.answers(x, "looping(3)", 1);
        Edges.answers(Edges.having("a=" + Edges.rows(39, "a*a") + ";"), "looping(0)", 40);
        Edges.answers(Edges.having("a=" + Edges.rows(38, "b") + ";b=b*b;"), "looping(0)", 1);
        Edges.answers(Edges.having(Edges.pairLoop('a', Edges.word(38, '1', 37, '2'))), "looping(0)", 38);
        Edges.answers(Edges.having("a=" + Edges.rows(39, "1") + ";"), "looping(0)", 0);
        LoopTypes two = Edges.having("a=[b]*[c];b=1*b;c=[[2>c]];");
        Edges.answers(two, "looping(0)", 4);
        Edges.answers(two, "size(0)", 9);
    }

    private static void filled() {
        Edges.sentence("of VOID not; of INT, NUM, ANY, ROWS, FUNS; of a PAIR if of both PARTS: 1, 0");
        String[] terms = {"0", "1", "2", "3", "[0]", "0>0", "0*0", "0*1", "1*0", "1*1", "[a]", "a>a", "a*a", "1*a",
            "a*1", "1*[a]", "[a]*(a>0)", "(1*2)*(3*0)", "((1*1)*(1*1))*((1*1)*(1*1))"};
        int[] least = {-1, 1, 1, 1, 1, 1, -1, -1, -1, 3, 1, 1, -1, -1, -1, 3, 3, -1, 15};
        for (int at = 0; at < terms.length; at++) {
            LoopTypes x = Edges.having("a=" + terms[at] + ";");
            Edges.due("filled " + terms[at], x.filled(0), least[at] > 0 ? 1 : 0);
            Edges.due("least " + terms[at], x.least(0), least[at]);
        }
        Edges.sentence("whether there is a value of it that ends: far down");
        for (int last = 0; last < 4; last++) {
            LoopTypes x = Edges.having("a=" + "1*(".repeat(29) + last + ")".repeat(29) + ";");
            Edges.answers(x, "filled(0)", last == 0 ? 0 : 1);
            Edges.answers(x, "least(0)", last == 0 ? -1 : 59);
        }
        LoopTypes loop = Edges.having(Edges.pairLoop('a', Edges.word(38, '1', 37, '2')));
        Edges.answers(loop, "filled(0)", 0);
        loop.turn(0, 5, 0);
        Edges.answers(loop, "filled(0)", 0);
        Edges.answers(loop, "least(0)", -1);
        Edges.answers(loop, "told(0)", 0);
    }

    /** Name 0 gets a TYPE whose least value is so large (odd), name 1 one with 2 more. */
    private static void leastUpTo(LoopTypes x, int least) {
        if (least == 1) {
            x.base(1, 0);
            x.make(5, 0, 0, 1);
            return;
        }
        int half = (least - 1) / 2;
        leastUpTo(x, half % 2 == 1 ? half : half - 1);
        if (half % 2 == 1) {
            x.make(5, 0, 0, 2);
            x.make(5, 0, 1, 1);
        } else {
            x.make(5, 0, 1, 2);
            x.make(5, 1, 1, 1);
        }
        x.copy(2, 0);
    }

    private static void leastToTheLimit() {
        Edges.sentence("for a PAIR 1 and those of both PARTS (1000000 at most)");
        for (int least : new int[] {1, 3, 5, 7, 9, 31, 65535, 65537, 499999, 500001, 999997, 999999}) {
            LoopTypes x = new LoopTypes();
            leastUpTo(x, least);
            Edges.answers(x, "least(0)", least);
            Edges.answers(x, "filled(0)", 1);
        }
        LoopTypes x = new LoopTypes();
        leastUpTo(x, 999999);
        x.base(3, 7);
        x.make(5, 0, 7, 6);
        Edges.due("least of 1000001", x.least(6), 1000000);
        x.make(5, 6, 7, 6);
        Edges.due("least of 1000003", x.least(6), 1000000);
        x.make(5, 6, 6, 6);
        Edges.due("least of 2000007", x.least(6), 1000000);
        x.make(4, 6, 6, 5);
        Edges.answers(x, "least(5)", 1);
        x.make(5, 5, 5, 5);
        Edges.answers(x, "least(5)", 3);
        Edges.sentence("NONE: there is none: though a PART's is beyond 1000000");
        x.base(0, 7);
        x.make(5, 6, 7, 5);
        Edges.answers(x, "least(5)", -1);
        x.make(5, 7, 6, 5);
        Edges.answers(x, "least(5)", -1);
        Edges.answers(x, "filled(5)", 0);
    }

    private static void signs() {
        Edges.sentence("With which signs PARTS ALIKE b are in a (a itself, too): 0 to 3");
        LoopTypes x = Edges.having("a=1>(2>[3]);b=1;c=2;d=3;e=0;f=[3];");
        Edges.answers(x, "signs(0, 0)", 1);
        Edges.answers(x, "signs(0, 1)", 2);
        Edges.answers(x, "signs(0, 2)", 2);
        Edges.answers(x, "signs(0, 3)", 1);
        Edges.answers(x, "signs(0, 4)", 0);
        Edges.answers(x, "signs(0, 5)", 1);
        Edges.answers(x, "signs(1, 0)", 0);
        Edges.answers(x, "told(0)", 0);
        Edges.sentence("1 even, 2 odd how often a STEP into PART 0 of a FUN is on the way (bits)");
        LoopTypes loops = Edges.having("a=a>1;b=(b>1)>2;c=1>c;d=[d]*1;e=1;f=(1>f)*1;");
        int[] itself = {3, 1, 1, 1, 1, 1};
        int[] ones = {3, 2, 2, 1, 1, 3};
        for (int name = 0; name < 6; name++) {
            Edges.answers(loops, "signs(" + name + ", " + name + ")", itself[name]);
            Edges.answers(loops, "signs(" + name + ", 4)", ones[name]);
        }
    }

    private static void signsFarDown() {
        Edges.sentence("how often a STEP into PART 0 of a FUN is on the way: 38 times");
        LoopTypes x = new LoopTypes();
        x.base(1, 0);
        x.base(1, 1);
        x.base(2, 2);
        for (int times = 1; times <= 38; times++) {
            x.make(6, 0, 2, 0);
            Edges.answers(x, "signs(0, 1)", times % 2 == 0 ? 1 : 2);
        }
        Edges.answers(x, "size(0)", 40);
        Edges.answers(x, "signs(0, 2)", 3);
        Edges.sentence("how often a STEP into PART 0 of a FUN is on the way: around a loop of 37 twice");
        LoopTypes odd = Edges.having(Edges.funLoop('a', Edges.word(37, '1', 36, '2')), "b=1;c=2;");
        Edges.answers(odd, "signs(0, 0)", 1);
        Edges.answers(odd, "signs(0, 2)", 2);
        odd.turn(0, 6, 0);
        Edges.answers(odd, "signs(0, 0)", 3);
        Edges.answers(odd, "signs(0, 1)", 3);
        Edges.answers(odd, "signs(0, 2)", 3);
        LoopTypes even = Edges.having(Edges.funLoop('a', Edges.word(38, '1', 37, '2')), "b=1;c=2;");
        even.turn(0, 6, 0);
        Edges.answers(even, "signs(0, 0)", 1);
        Edges.answers(even, "signs(0, 1)", 3);
        Edges.answers(even, "signs(0, 2)", 2);
    }
}
