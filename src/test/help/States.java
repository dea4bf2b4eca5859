/** Objects in the states that the tests of refusals begin with; each is made within 300 calls. */
final class States {
    private States() {
    }

    /** Seven names (h has no TYPE), eight versions, counts, THE ORDER's KIND 2, and a text cut off in the midst. */
    static LoopTypes rich() {
        LoopTypes x = Edges.having("a=[1]*2;b=1>a;c=c*b;d=0;e=[e];f=3;g=2;");
        x.order(2);
        for (int time = 0; time < 3; time++) {
            x.size(7);
        }
        x.part(3, 0, 0);
        x.back();
        x.back();
        Edges.reading(x, "a=" + Edges.rows(40, "1") + ";");
        Edges.reading(x, "a=[1]*2;b=1>a;c=c*b;d=0;e=[e];f=3;g=2;");
        for (int at = 0; at < 9; at++) {
            x.base(at % 4, 4 + at % 3);
        }
        x.clear();
        Edges.type(x, "d=[c];c=1*2");
        return x;
    }

    /** All names have a TYPE, and there are seven versions: one more may be left without losing one. */
    static LoopTypes allNames() {
        LoopTypes x = Edges.having("a=[1]*2;b=1>a;c=c*b;d=0;e=[e];f=3;g=2;h=[a];");
        for (int at = 0; at < 6; at++) {
            x.base(at % 4, 7 - at % 2);
        }
        return x;
    }

    /**
     * What is to be larger is FULL: a and b are of SIZE 40 and 39 and meet anew for a long time,
     * c is in a, d is cut off too large; the text is full and tells a TYPE of SIZE 41.
     */
    static LoopTypes large() {
        LoopTypes x = Edges.having(Edges.pairLoop('a', Edges.word(38, '1', 37, '2')),
            Edges.pairLoop('b', Edges.word(37, '2', 36, '1')));
        x.base(1, 2);
        x.draw(51545, 12, 3);
        x.make(4, 3, 3, 3);
        x.order(4);
        x.clear();
        String text = "c=2;a=" + Edges.rows(40, "1");
        Edges.type(x, text + " ".repeat(119 - text.length()) + ";");
        return x;
    }

    /** No name has a TYPE, yet there is a text with one EQUATION. */
    static LoopTypes empty() {
        LoopTypes x = new LoopTypes();
        Edges.type(x, "h=[h]");
        return x;
    }

    /** As empty, but every name has had a TYPE: eight versions were gone back through. */
    static LoopTypes emptied() {
        LoopTypes x = Edges.having("a=1;b=1;c=1;d=1;e=1;f=1;g=1;h=1;");
        for (int at = 0; at < 7; at++) {
            x.base(2, at);
        }
        for (int at = 0; at < 8; at++) {
            x.back();
        }
        return x;
    }
}
