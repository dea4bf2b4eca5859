/** The edges of the promises 6 to 11: under, alike, apart, near, shared, way. */
public final class EdgesOfTwoTypes {
    public static void main(String[] args) {
        under();
        alike();
        apartByK();
        apartRefused();
        nearEnds();
        nearLong();
        shared();
        way();
        withItself();
        Edges.end("edges of two types");
    }

    private static void under() {
        Edges.sentence("Whether a is UNDER b: 1, 0: the largest TYPES, which part at their last");
        LoopTypes x = Edges.having("a=" + Edges.rows(39, "1") + ";", "b=" + Edges.rows(39, "2") + ";",
            "c=" + Edges.rows(38, "1") + ";d=[d];", "e=" + Edges.rows(39, "3") + ";", "f=" + Edges.rows(39, "0") + ";");
        Edges.answers(x, "under(0, 1)", 1);
        Edges.answers(x, "under(1, 0)", 0);
        Edges.answers(x, "under(0, 2)", 0);
        Edges.answers(x, "under(2, 0)", 0);
        Edges.answers(x, "under(3, 4)", 1);
        Edges.answers(x, "under(4, 3)", 0);
        Edges.answers(x, "under(5, 3)", 1);
        Edges.answers(x, "under(3, 5)", 0);
        x.order(3);
        Edges.answers(x, "under(3, 4)", 0);
        Edges.answers(x, "under(5, 3)", 0);
        Edges.sentence("under: BAD: a NAME that has none, that is none");
        Edges.badAtEach(States::rich, "under(1, 0)");
        Edges.badAtEach(() -> Edges.having("h=1;"), "under(7, 7)");
    }

    private static void alike() {
        Edges.sentence("Whether both are ALIKE: 1, 0: the largest TYPES");
        LoopTypes x = Edges.having("a=" + Edges.rows(39, "1") + ";", "b=" + Edges.rows(39, "2") + ";",
            "d=" + Edges.rows(20, "1") + ";", "c=" + Edges.rows(19, "d") + ";");
        Edges.answers(x, "alike(0, 1)", 0);
        Edges.answers(x, "alike(0, 2)", 1);
        LoopTypes y = Edges.having(Edges.pairLoop('a', Edges.word(38, '1', 37, '2')),
            Edges.pairLoop('b', Edges.word(38, '1', 37, '2')), Edges.pairLoop('c', Edges.word(38, '1', 36, '2')),
            "d=b*2;");
        Edges.answers(y, "size(0)", 40);
        Edges.answers(y, "alike(0, 1)", 1);
        Edges.answers(y, "alike(0, 2)", 0);
        Edges.answers(y, "part(2, 0, 4)", 40);
        Edges.answers(y, "alike(4, 0)", 0);
        Edges.answers(y, "alike(3, 0)", 0);
        Edges.sentence("alike: the least TYPES");
        LoopTypes z = Edges.having("a=0;b=1;c=2;d=3;e=[e];f=f*f;g=g>g;");
        for (int a = 0; a < 7; a++) {
            for (int b = 0; b < 7; b++) {
                Edges.answers(z, "alike(" + a + ", " + b + ")", a == b ? 1 : 0);
            }
        }
        Edges.sentence("alike: BAD");
        Edges.badAtEach(States::rich, "alike(0, 0)");
    }

    private static void apartByK() {
        Edges.sentence("how many STEPS (k = NONE), the k-th one; -5: not so many");
        LoopTypes x = Edges.having("a=1*[2];b=1*[1];c=1;d=[1];");
        int[] answers = {2, 1, 0, -5, -5};
        for (int k = -1; k < 4; k++) {
            Edges.asks(() -> Edges.having("a=1*[2];b=1*[1];"), "apart(0, 1, " + k + ")", answers[k + 1]);
        }
        Edges.answers(x, "apart(2, 3, -1)", 0);
        Edges.answers(x, "apart(2, 3, 0)", -5);
        Edges.answers(x, "apart(0, 1, 2147483647)", -5);
        Edges.sentence("-6: a is UNDER b (whatever k is that is not BAD)");
        for (int k : new int[] {-1, 0, 1, 2, 1000000, Integer.MAX_VALUE}) {
            Edges.answers(x, "apart(1, 0, " + k + ")", -6);
        }
        Edges.answers(x, "told(0)", 0);
    }

    private static void apartRefused() {
        Edges.sentence("apart: BAD: -10");
        Edges.badAtEach(States::rich, "apart(0, 1, -1)");
        Edges.badAtEach(States::rich, "apart(0, 0, 2147483647)");
        Edges.bad(States::rich, "apart(0, 0, -2)", "apart(0, 1, -2)", "apart(0, 1, -2147483648)", "apart(7, 7, -2)");
    }

    private static void nearEnds() {
        Edges.sentence("Whether both are the same down to n (0 .. 60) STEPS: 0");
        LoopTypes x = Edges.having("a=1*2;b=[1]*[2];c=1>2;d=1;e=2;");
        Edges.answers(x, "near(0, 1, 0)", 1);
        Edges.answers(x, "near(0, 2, 0)", 0);
        Edges.answers(x, "near(3, 4, 0)", 0);
        Edges.answers(x, "near(0, 1, 1)", 0);
        Edges.sentence("HEADS of all PARTS that are reached by n STEPS or fewer");
        LoopTypes rows = Edges.having("a=" + Edges.rows(39, "1") + ";", "b=" + Edges.rows(39, "2") + ";", "c=[c];");
        for (int n = 0; n <= 60; n++) {
            Edges.answers(rows, "near(0, 1, " + n + ")", n < 39 ? 1 : 0);
            Edges.answers(rows, "near(2, 1, " + n + ")", n < 39 ? 1 : 0);
            Edges.answers(rows, "near(2, 2, " + n + ")", 1);
        }
        Edges.sentence("near: NUM and INT, VOID and ANY are not the same, whatever THE ORDER");
        for (int kind = 0; kind < 5; kind++) {
            LoopTypes y = Edges.having("a=[0];b=[1];c=[2];d=[3];");
            y.order(kind);
            for (int at = 0; at < 16; at++) {
                Edges.answers(y, "near(" + at / 4 + ", " + at % 4 + ", 1)", at / 4 == at % 4 ? 1 : 0);
            }
        }
        Edges.sentence("near: BAD");
        Edges.bad(States::rich, "near(0, 0, -1)", "near(0, 0, 61)", "near(0, 7, 60)", "near(7, 0, 0)");
        Edges.badAtEach(States::rich, "near(0, 1, 60)");
    }

    /** The longest word that has two periods, but not the least one of both, told by its first letters. */
    private static String[] wordsOfPeriods(int p, int q) {
        int length = p + q - 2;
        char[] all = new char[length];
        java.util.Arrays.fill(all, '1');
        all[0] = '2';
        for (boolean more = true; more;) {
            more = false;
            for (int at = 0; at < length; at++) {
                for (int by : new int[] {p, q}) {
                    if (at + by < length && all[at] != all[at + by]) {
                        all[at] = '2';
                        all[at + by] = '2';
                        more = true;
                    }
                }
            }
        }
        String word = new String(all);
        return new String[] {word.substring(0, p), word.substring(0, q)};
    }

    /** Two loops that are the same for so many PARTS 1, which are reached by 1 STEP, 2 STEPS, and so on. */
    private static LoopTypes likeLoops(int p, int q) {
        String[] words = wordsOfPeriods(p, q);
        int first = 0;
        while (words[0].charAt(first % p) == words[1].charAt(first % q)) {
            first++;
        }
        Edges.due("how many letters of the words are the same", first, p + q - 2);
        return Edges.having(Edges.pairLoop('a', words[0]), Edges.pairLoop('b', words[1]));
    }

    private static void nearLong() {
        Edges.sentence("(0 .. 60) STEPS: not the same by the 60th");
        LoopTypes x = likeLoops(31, 30);
        Edges.answers(x, "near(0, 1, 58)", 1);
        Edges.answers(x, "near(0, 1, 59)", 1);
        Edges.answers(x, "near(0, 1, 60)", 0);
        Edges.answers(x, "near(1, 0, 59)", 1);
        Edges.answers(x, "near(1, 0, 60)", 0);
        Edges.sentence("(0 .. 60) STEPS: not the same behind the 60th alone");
        x = likeLoops(33, 29);
        Edges.answers(x, "alike(0, 1)", 0);
        Edges.answers(x, "near(0, 1, 60)", 1);
        Edges.answers(x, "near(1, 0, 60)", 1);
        Edges.answers(x, "near(0, 1, 61)", -2);
        x = likeLoops(38, 37);
        Edges.answers(x, "size(0)", 40);
        Edges.answers(x, "near(0, 1, 60)", 1);
        Edges.answers(x, "alike(0, 1)", 0);
    }

    private static void shared() {
        Edges.sentence("How many of the unlike TYPES of a (a, its PARTS, and so on) are among those of b: none and all");
        LoopTypes x = Edges.having("a=" + Edges.rows(39, "1") + ";", "b=" + Edges.rows(39, "2") + ";",
            "c=" + Edges.rows(20, "1") + ";d=1;e=2;");
        Edges.answers(x, "shared(0, 0)", 40);
        Edges.answers(x, "shared(0, 1)", 0);
        Edges.answers(x, "shared(0, 2)", 21);
        Edges.answers(x, "shared(2, 0)", 21);
        Edges.answers(x, "shared(0, 3)", 1);
        Edges.answers(x, "shared(3, 0)", 1);
        Edges.answers(x, "shared(4, 0)", 0);
        LoopTypes loops = Edges.having(Edges.pairLoop('a', Edges.word(38, '1', 37, '2')),
            Edges.pairLoop('b', Edges.word(38, '1', 20, '2')), Edges.pairLoop('c', Edges.word(37, '1', 20, '2')));
        Edges.answers(loops, "alike(0, 1)", 0);
        Edges.answers(loops, "shared(0, 1)", 40);
        Edges.answers(loops, "shared(1, 2)", 2);
        Edges.answers(loops, "shared(2, 1)", 2);
        Edges.sentence("shared: BAD");
        Edges.badAtEach(States::rich, "shared(0, 2)");
    }

    private static void way() {
        Edges.sentence("The fewest STEPS from a on to a PART ALIKE b (0: a itself)");
        LoopTypes x = Edges.having("a=" + Edges.rows(39, "1") + ";", "b=1;c=[b];d=2;");
        Edges.answers(x, "way(0, 0)", 0);
        Edges.answers(x, "way(0, 1)", 39);
        Edges.answers(x, "way(0, 2)", 38);
        Edges.answers(x, "way(1, 1)", 0);
        Edges.sentence("way: NONE");
        Edges.answers(x, "way(0, 3)", -1);
        Edges.answers(x, "way(1, 0)", -1);
        Edges.answers(x, "way(2, 0)", -1);
        Edges.answers(x, "told(0)", 0);
        Edges.sentence("The fewest STEPS: in a loop 0, not once about");
        LoopTypes loop = Edges.having(Edges.pairLoop('a', Edges.word(38, '1', 37, '2')), "b=a*2;c=1;d=2;");
        Edges.answers(loop, "way(0, 0)", 0);
        Edges.answers(loop, "part(0, 0, 4)", 40);
        Edges.answers(loop, "way(4, 0)", 37);
        Edges.answers(loop, "way(0, 4)", 1);
        Edges.answers(loop, "way(0, 2)", 1);
        Edges.answers(loop, "way(0, 3)", 38);
        Edges.answers(loop, "way(0, 1)", 37);
        Edges.sentence("The fewest STEPS: of several ways");
        LoopTypes ways = Edges.having("a=[[[1]]]*([1]*[[1]]);b=1;c=[1];d=[[[1]]]*[[1]];");
        Edges.answers(ways, "way(0, 1)", 3);
        Edges.answers(ways, "way(0, 2)", 2);
        Edges.answers(ways, "way(3, 1)", 3);
        Edges.sentence("way: BAD");
        Edges.badAtEach(States::rich, "way(1, 0)");
    }

    private static void withItself() {
        Edges.sentence("two types: one NAME may be told twice");
        LoopTypes x = Edges.having("a=0;b=1;c=2;d=3;e=[e]>1;f=1*(2>f);g=[0]*[3];");
        for (int kind = 0; kind < 5; kind++) {
            x.order(kind);
            for (int a = 0; a < 7; a++) {
                Edges.answers(x, "under(" + a + ", " + a + ")", 1);
                Edges.answers(x, "alike(" + a + ", " + a + ")", 1);
                Edges.answers(x, "apart(" + a + ", " + a + ", -1)", -6);
                Edges.answers(x, "near(" + a + ", " + a + ", 60)", 1);
                Edges.answers(x, "shared(" + a + ", " + a + ")", x.size(a));
                Edges.answers(x, "way(" + a + ", " + a + ")", 0);
            }
        }
    }
}
