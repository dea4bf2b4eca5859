import java.util.List;

/** The edges of the promises 2 to 5: type, clear, read, order. */
public final class EdgesOfTexts {
    public static void main(String[] args) {
        bytes();
        typeFull();
        clears();
        reads();
        readFull();
        readGivesAllOrNone();
        readOften();
        orders();
        Edges.end("edges of texts");
    }

    private static void bytes() {
        Edges.sentence("A byte (0 .. 127) comes behind THE TEXT: how many it has");
        LoopTypes x = new LoopTypes();
        int[] each = {0, 127, 1, 126, 32, 97};
        for (int at = 0; at < each.length; at++) {
            Edges.answers(x, "type(" + each[at] + ")", at + 1);
        }
        Edges.sentence("BAD: a byte below 0, above 127");
        for (int c : new int[] {-1, 128, 255, 256 + 97, 65536 + 97, -128, Integer.MAX_VALUE, Integer.MIN_VALUE}) {
            Edges.bad(LoopTypes::new, "type(" + c + ")");
            Edges.bad(States::rich, "type(" + c + ")");
        }
        Edges.sentence("A byte (0 .. 127) comes behind THE TEXT: a refused one does not");
        LoopTypes y = new LoopTypes();
        for (char c : "a=[1]*2;".toCharArray()) {
            y.type(-1);
            y.type(c);
            y.type(128 + c);
        }
        Edges.answers(y, "told(4)", 8);
        Edges.answers(y, "read()", 1);
        Edges.isType(y, 0, "[1]*2");
    }

    private static LoopTypes fullText() {
        LoopTypes x = new LoopTypes();
        Edges.type(x, "h=2>1;" + " ".repeat(113));
        return x;
    }

    private static void typeFull() {
        Edges.sentence("FULL: 120");
        LoopTypes x = fullText();
        Edges.answers(x, "told(4)", 119);
        Edges.answers(x, "type(32)", 120);
        Edges.answers(x, "type(32)", -4);
        Edges.answers(x, "type(97)", -4);
        Edges.answers(x, "type(128)", -2);
        Edges.answers(x, "type(-1)", -2);
        Edges.answers(x, "told(4)", 120);
        Edges.answers(x, "read()", 1);
        Edges.answers(x, "told(2)", 2);
        Edges.answers(x, "clear()", 120);
        Edges.answers(x, "type(97)", 1);
    }

    private static void clears() {
        Edges.sentence("THE TEXT is empty: how many it had");
        Edges.answers(new LoopTypes(), "clear()", 0);
        for (int bytes = 1; bytes <= 120; bytes++) {
            LoopTypes x = new LoopTypes();
            Edges.type(x, ("a=1;" + " ".repeat(116)).substring(0, bytes));
            Edges.answers(x, "clear()", bytes);
            Edges.answers(x, "clear()", 0);
            Edges.answers(x, "read()", -10);
        }
        Edges.sentence("THE TEXT is empty: all else stays");
        LoopTypes x = States.rich();
        List<Long> before = Edges.view(x);
        Edges.answers(x, "clear()", 11);
        List<Long> behind = Edges.view(x);
        before.set(1, 0L);
        Edges.due("what there is behind clear (1)", before.equals(behind) ? 1 : 0, 1);
        Edges.answers(x, "told(0)", 3);
    }

    private static void reads() {
        Edges.sentence("EQUATIONS are read (THE TEXT stays): how many: the fewest and the most");
        LoopTypes x = Edges.having("h=1;");
        Edges.answers(x, "told(4)", 4);
        Edges.answers(x, "read()", 1);
        x = Edges.having("h=a;g=b;f=c;e=d;d=e*1;c=f*1;b=g*1;a=h*1;");
        Edges.answers(x, "told(4)", 40);
        for (int name = 0; name < 4; name++) {
            Edges.answers(x, "alike(" + name + ", " + (7 - name) + ")", 1);
            Edges.isType(x, name, "a*1");
        }
        Edges.sentence("-10 less the FAULT: the least and the greatest");
        Edges.due("a FAULT at 0", Edges.reading("1"), -10);
        Edges.due("a FAULT at 120", Edges.reading("a=" + " ".repeat(118)), -130);
    }

    private static LoopTypes typed(String text) {
        LoopTypes x = Edges.having("c=" + Edges.rows(39, "1") + ";", "d=2;e=c;");
        x.clear();
        Edges.type(x, text);
        return x;
    }

    private static void readFull() {
        Edges.sentence("read: FULL -4 a TYPE would be of SIZE above 40: 40 and 41");
        Edges.answers(Edges.having("a=" + Edges.rows(39, "1") + ";"), "size(0)", 40);
        Edges.full(() -> typed("a=" + Edges.rows(40, "1") + ";"), "read()");
        Edges.answers(Edges.having("a=" + "1>".repeat(39) + "1;"), "size(0)", 40);
        Edges.full(() -> typed("a=" + "1>".repeat(40) + "1;"), "read()");
        Edges.answers(Edges.having("a=" + "1*".repeat(38) + "2;"), "size(0)", 40);
        Edges.full(() -> typed("a=" + "1*".repeat(39) + "2;"), "read()");
        Edges.answers(Edges.having(Edges.pairLoop('a', Edges.word(38, '1', 5, '2'))), "size(0)", 40);
        Edges.full(() -> typed(Edges.pairLoop('a', Edges.word(39, '1', 5, '2'))), "read()");
        Edges.sentence("read: FULL by the TYPES that other letters have");
        LoopTypes x = Edges.having("c=" + Edges.rows(38, "1") + ";", "a=[c];");
        Edges.answers(x, "size(0)", 40);
        Edges.full(() -> typed("a=[c];"), "read()");
        Edges.full(() -> typed("a=c*c;"), "read()");
        Edges.due("the same TYPE is not larger", Edges.reading(typed(""), "a=c;b=a;c=e;"), 3);
    }

    private static void readGivesAllOrNone() {
        Edges.sentence("read: FULL: all stays, whichever of the EQUATIONS it is");
        String large = Edges.rows(40, "1");
        Edges.full(() -> typed("a=" + large + ";b=1;f=2;"), "read()");
        Edges.full(() -> typed("b=1;a=" + large + ";f=2;"), "read()");
        Edges.full(() -> typed("b=1;f=2;d=" + large + ";"), "read()");
        Edges.full(() -> typed("a=[c];b=[c];d=[c];e=[c];f=[c];g=[c];h=[c];"), "read()");
        Edges.full(() -> typed("a=[b];b=[d];d=[f];f=c;"), "read()");
        Edges.sentence("read: FULL does not hinder what comes behind");
        LoopTypes x = typed("a=[c];");
        for (int time = 1; time <= 20; time++) {
            Edges.answers(x, "read()", -4);
            Edges.answers(x, "told(2)", time);
        }
        Edges.due("read behind FULL", Edges.reading(x, "a=[d];c=[a];"), 2);
        Edges.isType(x, 0, "[2]");
        Edges.isType(x, 2, "[[2]]");
    }

    private static void readOften() {
        Edges.sentence("EQUATIONS are read (THE TEXT stays): again and again");
        LoopTypes x = Edges.having("a=1;", "b=[a];a=[b];");
        Edges.answers(x, "size(0)", 1);
        x = Edges.having("a=1;");
        x.clear();
        Edges.type(x, "b=[a];c=b*a;");
        for (int size = 1; size <= 38; size++) {
            Edges.answers(x, "read()", 2);
            Edges.answers(x, "size(1)", size + 1);
            Edges.answers(x, "size(2)", size + 2);
            Edges.answers(x, "copy(1, 0)", size + 1);
        }
        Edges.answers(x, "size(0)", 39);
        Edges.answers(x, "read()", -4);
        Edges.answers(x, "size(1)", 39);
        Edges.answers(x, "told(4)", 12);
    }

    private static void orders() {
        Edges.sentence("THE ORDER's KIND: what it was");
        LoopTypes x = new LoopTypes();
        int was = 0;
        for (int kind : new int[] {0, 1, 2, 3, 4, 4, 0, 4, 3, 2, 1, 0}) {
            Edges.answers(x, "order(" + kind + ")", was);
            Edges.answers(x, "told(5)", kind);
            was = kind;
        }
        Edges.sentence("order: BAD");
        Edges.badAtEach(States::rich, "order(0)");
        Edges.badAtEach(LoopTypes::new, "order(0)");
    }
}
