/** The edges of the document's Terms under 1: types, SIZE, NAMES, THE TEXT, EQUATIONS, FAULTs, ORDERS, APART. */
public final class EdgesOfTerms {
    private static final String LETTERS = "abcdefgh";
    /** A loop of SIZE 40, a pair of 39 rows around itself: a row of it is among its parts. */
    private static final String LOOP = "a=b*b;b=" + Edges.rows(39, "a") + ";";
    private static final String ATOMS = "0123abcdefgh[( ";

    public static void main(String[] args) {
        heads();
        sizes();
        names();
        fullText();
        letters();
        termsAndProducts();
        blanks();
        bytesThatStand();
        tooEarly();
        faultsInPlace();
        readBehindFaults();
        toldAlready();
        lettersWithoutType();
        lettersAlone();
        whatLettersStandFor();
        orders();
        claimsThatComeBack();
        apartAtOnce();
        apartTheShortest();
        apartTheLongest();
        apartChangedAbout();
        Edges.end("edges of the terms");
    }

    private static void heads() {
        Edges.sentence("HEADS: 0 VOID, 1 INT, 2 NUM, 3 ANY, without PARTS");
        LoopTypes x = Edges.having("a=0;b=1;c=2;d=3;e=[1];f=2*3;g=3>2;");
        for (int name = 0; name < 4; name++) {
            Edges.answers(x, "head(" + name + ")", name);
            Edges.answers(x, "part(" + name + ", 0, 7)", -3);
            Edges.answers(x, "part(" + name + ", 1, 7)", -3);
        }
        Edges.sentence("4 ROW with one PART (0)");
        Edges.answers(x, "head(4)", 4);
        Edges.answers(x, "part(4, 0, 7)", 1);
        Edges.answers(x, "head(7)", 1);
        Edges.answers(x, "part(4, 1, 7)", -3);
        Edges.sentence("5 PAIR, 6 FUN with two PARTS (0, 1)");
        for (int name = 5; name < 7; name++) {
            Edges.answers(x, "head(" + name + ")", name);
            for (int i = 0; i < 2; i++) {
                Edges.answers(x, "part(" + name + ", " + i + ", 7)", 1);
                Edges.answers(x, "head(7)", name == 5 ? 2 + i : 3 - i);
            }
        }
    }

    private static void sizes() {
        Edges.sentence("how many unlike TYPES are among a TYPE, its PARTS, theirs, and so on: the least");
        LoopTypes x = Edges.having("a=0;b=[b];c=c*(c*c);d=(d>d)>d;e=[[[e]]];f=1*1;g=(f*f)*(f*f);");
        int[] sizes = {1, 1, 1, 1, 1, 2, 4};
        for (int name = 0; name < 7; name++) {
            Edges.answers(x, "size(" + name + ")", sizes[name]);
        }
        Edges.sentence("SIZE 40 at most: trees without end");
        LoopTypes loop = Edges.having(LOOP, "b=[a];c=" + Edges.rows(19, "a") + ";", "d=" + Edges.rows(39, "a") + ";e=d*d;");
        for (int name = 0; name < 5; name++) {
            Edges.answers(loop, "size(" + name + ")", 40);
        }
        Edges.answers(loop, "alike(0, 4)", 1);
        Edges.sentence("SIZE 40 at most: one more is FULL");
        Edges.full(() -> Edges.having(LOOP, "b=1;"), "make(6, 0, 1, 1)",
            "make(5, 0, 0, 1)", "make(5, 1, 0, 1)", "make(5, 0, 1, 2)", "make(6, 0, 0, 0)");
    }

    private static void names() {
        Edges.sentence("NAMES a .. h (0 .. 7) each have a TYPE");
        LoopTypes x = new LoopTypes();
        for (int name = 0; name < 8; name++) {
            Edges.due("read of one letter", Edges.reading(x, LETTERS.charAt(name) + "=" + Edges.rows(name, "1") + ";"), 1);
            Edges.answers(x, "told(6)", (2 << name) - 1);
            Edges.answers(x, "size(" + name + ")", name + 1);
        }
        Edges.sentence("SIZE 40 at most: all NAMES");
        LoopTypes large = Edges.having("a=" + Edges.rows(39, "1") + ";");
        for (int name = 1; name < 8; name++) {
            Edges.answers(large, "copy(0, " + name + ")", 40);
        }
        Edges.answers(large, "told(6)", 255);
        for (int name = 0; name < 8; name++) {
            Edges.answers(large, "size(" + name + ")", 40);
        }
        Edges.sentence("or none (at first)");
        Edges.answers(new LoopTypes(), "told(6)", 0);
        for (int name = 0; name < 8; name++) {
            Edges.bad(LoopTypes::new, "head(" + name + ")", "copy(" + name + ", 0)");
        }
    }

    private static void fullText() {
        Edges.sentence("THE TEXT (120 bytes at most)");
        String text = "a=" + Edges.rows(39, "1") + ";b=2>2>2>2>2>2>2>2>2>2>2>2>2>2>2>2;h=3;";
        text = text + " ".repeat(120 - text.length());
        LoopTypes x = new LoopTypes();
        Edges.type(x, text);
        Edges.answers(x, "told(4)", 120);
        Edges.answers(x, "type(59)", -4);
        Edges.answers(x, "told(4)", 120);
        Edges.answers(x, "read()", 3);
        Edges.answers(x, "size(0)", 40);
        Edges.answers(x, "size(1)", 16);
        Edges.answers(x, "head(7)", 3);
        Edges.sentence("THE TEXT (120 bytes at most): its last byte counts");
        String ends = "a=1" + " ".repeat(116) + ";";
        Edges.due("read of a text whose last byte is ;", Edges.reading(ends), 1);
        Edges.due("read of a text whose byte 121 would be ;", Edges.reading(" " + ends), -10 - 120);
    }

    private static void letters() {
        Edges.sentence("a letter a .. h = a TERM");
        String[] texts = {"`=1;", "i=1;", "A=1;", "H=1;", "@=1;", "0=1;"};
        for (String text : texts) {
            Edges.due("read of " + text, Edges.reading(text), -10);
        }
        Edges.due("read of the first and the last letter", Edges.reading("h=1;a=2;"), 2);
        Edges.sentence("EQUATIONS, each ended by ;: as many as there are letters");
        StringBuilder eight = new StringBuilder();
        for (int at = 7; at >= 0; at--) {
            eight.append(LETTERS.charAt(at)).append("=").append(at % 4).append(";");
        }
        LoopTypes x = new LoopTypes();
        Edges.due("read of eight", Edges.reading(x, eight.toString()), 8);
        for (int name = 0; name < 8; name++) {
            Edges.answers(x, "head(" + name + ")", name % 4);
        }
        for (int at = 0; at < 8; at++) {
            Edges.due("read of nine", Edges.reading(eight.toString() + LETTERS.charAt(at) + "=1;"), -10 - 32);
        }
    }

    private static void termsAndProducts() {
        Edges.sentence("a TERM is a PRODUCT, perhaps followed by > and a TERM (a FUN of both)");
        LoopTypes x = Edges.having("a=0>1>2>3;b=0>(1>(2>3));c=0*1>2*3;d=(0*1)>(2*3);e=(0>1)>(2>3);");
        Edges.answers(x, "alike(0, 1)", 1);
        Edges.answers(x, "alike(2, 3)", 1);
        Edges.answers(x, "alike(0, 4)", 0);
        Edges.sentence("ATOMS with * between (PAIRS, taken from the left on)");
        x = Edges.having("a=0*1*2*3;b=((0*1)*2)*3;c=0*(1*(2*3));d=(0*1)*(2*3);");
        Edges.answers(x, "alike(0, 1)", 1);
        Edges.answers(x, "alike(0, 2)", 0);
        Edges.answers(x, "alike(0, 3)", 0);
        Edges.sentence("an ATOM is 0, 1, 2, 3 (that HEAD)");
        for (char c = '/'; c <= ':'; c++) {
            Edges.due("read of a=" + c + ";", Edges.reading("a=" + c + ";"), c >= '0' && c <= '3' ? 1 : -12);
        }
        Edges.sentence("[ TERM ] (a ROW), or ( TERM ): as many as the text holds");
        Edges.answers(Edges.having("a=" + "(".repeat(58) + "2" + ")".repeat(58) + ";"), "code(0)", 33);
        Edges.answers(Edges.having("a=" + "([".repeat(29) + "2" + "])".repeat(29) + ";"), "deep(0)", 29);
        Edges.answers(Edges.having("a=" + "1*(".repeat(29) + "2" + ")".repeat(29) + ";"), "deep(0)", 29);
        Edges.answers(Edges.having("a=" + "2>(".repeat(28) + "1" + ")".repeat(28) + ";"), "deep(0)", 28);
        Edges.due("brackets without a term", Edges.reading("a=[()];"), -10 - 4);
        Edges.sentence("a TERM as long as the text");
        Edges.answers(Edges.having("a=" + "a*".repeat(58) + "a;"), "size(0)", 1);
        Edges.answers(Edges.having("a=" + "a>".repeat(58) + "a;"), "size(0)", 1);
        Edges.due("58 pairs, each another", Edges.reading("a=" + "1*".repeat(58) + "1;"), -4);
        Edges.due("58 functions, each another", Edges.reading("a=" + "1>".repeat(58) + "1;"), -4);
    }

    private static void blanks() {
        Edges.sentence("Blanks (32) may stand anywhere");
        String text = "a=[1*(b>2)]>b;b=3*a;";
        LoopTypes plain = Edges.having(text);
        for (int at = 0; at <= text.length(); at++) {
            LoopTypes x = Edges.having(text.substring(0, at) + "  " + text.substring(at));
            Edges.due("code of a with blanks at " + at, x.code(0), plain.code(0));
            Edges.due("code of b with blanks at " + at, x.code(1), plain.code(1));
            for (char c : new char[] {0, 9, 10, 31, 33, 127}) {
                String other = text.substring(0, at) + c + text.substring(at);
                Edges.due("read with a byte " + (int) c + " at " + at, Edges.reading(other), -10 - at);
            }
        }
    }

    /** Behind a text that ends in the midst: each of the 128 bytes stands there, or is its FAULT. */
    private static void stands(String before, String among) {
        for (char c = 0; c < 128; c++) {
            long answer = Edges.reading(before + c);
            boolean stands = answer != -10 - before.length();
            Edges.due("whether byte " + (int) c + " stands behind '" + before + "'", stands ? 1 : 0, among.indexOf(c) < 0 ? 0 : 1);
        }
    }

    private static void bytesThatStand() {
        Edges.sentence("the place of the first byte that can not stand there: at the beginning of an EQUATION");
        for (String before : new String[] {"", "   "}) {
            stands(before, LETTERS + " ");
        }
        stands("a=1;", "bcdefgh ");
        stands("h=[1]; ", "abcdefg ");
        stands("c=1;h=2;", "abdefg ");
        stands("a=1;b=1;c=1;d=1;e=1;f=1;g=1;h=1;", " ");
        Edges.sentence("the place of the first byte that can not stand there: behind a letter at the beginning");
        stands("a", "= ");
        stands("h ", "= ");
        Edges.sentence("the place of the first byte that can not stand there: where an ATOM begins");
        for (String before : new String[] {"a=", "a= ", "a=(", "a=[", "a=1*", "a=1>", "a=1*2>", "a=1>2*", "a=[1*", "a=(1>"}) {
            stands(before, ATOMS);
        }
        Edges.sentence("the place of the first byte that can not stand there: behind an ATOM");
        for (String before : new String[] {"a=1", "a=1 ", "a=h", "a=(1)", "a=[1]", "a=1*2", "a=1>2", "a=[(1)]", "a=1>2*3"}) {
            stands(before, "*>; ");
        }
        for (String before : new String[] {"a=(1", "a=(1*2", "a=(1>2", "a=[(1", "a=(b", "a=([1]", "a=((1)"}) {
            stands(before, "*>) ");
        }
        for (String before : new String[] {"a=[1", "a=[1*2", "a=[1>2", "a=([1", "a=[b", "a=[(1)", "a=[[1]"}) {
            stands(before, "*>] ");
        }
    }

    private static void tooEarly() {
        Edges.sentence("the TEXT's length, if it ends too early");
        String text = " a = [1*(a>2)] ; b=a * b>0 ; c=[b]>(c)*[3]; ";
        for (int length = 0; length <= text.length(); length++) {
            String before = text.substring(0, length);
            long equations = before.chars().filter(c -> c == ';').count();
            boolean ends = before.trim().endsWith(";");
            Edges.due("read of '" + before + "'", Edges.reading(before), ends ? equations : -10 - length);
        }
        Edges.sentence("(an empty one, too)");
        Edges.asks(LoopTypes::new, "read()", -10);
        for (int blanks = 1; blanks <= 120; blanks++) {
            Edges.due("read of " + blanks + " blanks", Edges.reading(" ".repeat(blanks)), -10 - blanks);
        }
        Edges.sentence("the TEXT's length, if it ends too early: the full text");
        for (String full : new String[] {"a=" + "[".repeat(118), "a=" + "1*".repeat(59), "a=1;b" + " ".repeat(115)}) {
            Edges.due("read of " + full, Edges.reading(full), -10 - 120);
        }
    }

    private static void faultsInPlace() {
        Edges.sentence("FAULT: the place of the first byte that can not stand there: the least and the greatest place");
        Edges.due("the first byte", Edges.reading("=" + " ".repeat(119)), -10);
        Edges.due("the last byte", Edges.reading("a=1;" + " ".repeat(115) + "a"), -10 - 119);
        Edges.due("the last byte but one", Edges.reading("a=1;" + " ".repeat(114) + "a="), -10 - 118);
        Edges.sentence("FAULT: all stays");
        for (String text : new String[] {"b=2;a=", "b=2;a=x;", "b=2;b=3;", "b=2;a=h;", "b=2;a=a;", "b=2;a=1", ""}) {
            Edges.asks(() -> halfRead(text), "read()", Edges.reading(text));
        }
    }

    private static void readBehindFaults() {
        Edges.sentence("FAULT: all stays: behind each one the next text is read as by a new object");
        String[] faults = {"", "a", "a=", "a=1", "a=1*", "a=1>2*", "a=(", "a=[1*(2>", "a=((((1)", "a=[[[[1]]", "a=(1];", "a=1);",
            "a=1>(2*3", "b=1;c=2;a=[3>", "a=h;", "a=[1*g]>h;", "a=a;", "b=c;c=b;", "a=1;a=2;", "h=1;g=2;f=3;e=0;d=1;c=2;b=3;a"};
        String[] texts = {"a=1;", "b=[1]*2>3;", "c=(c*1)>[0];d=c;", "h=1*2*3;g=h;f=g;"};
        LoopTypes x = new LoopTypes();
        for (int at = 0; at < faults.length; at++) {
            for (String text : texts) {
                long fault = Edges.reading(faults[at]);
                Edges.due("read of " + faults[at], Edges.reading(x, faults[at]), fault);
                Edges.due("whether it is a FAULT", fault <= -10 ? 1 : 0, 1);
                LoopTypes other = Edges.having(text);
                Edges.due("read of " + text, Edges.reading(x, text), text.chars().filter(c -> c == ';').count());
                int name = text.charAt(0) - 'a';
                Edges.due("code of its first", x.code(name), other.code(name));
                x.back();
            }
            Edges.answers(x, "told(3)", 0);
            Edges.answers(x, "told(6)", 0);
            x = new LoopTypes();
        }
    }

    /** A version and a name stand, then a text that has a FAULT. */
    private static LoopTypes halfRead(String text) {
        LoopTypes x = Edges.having("b=1;c=[b];", "c=[[b]];");
        x.order(3);
        x.clear();
        Edges.type(x, text);
        return x;
    }

    private static void toldAlready() {
        Edges.sentence("a letter at the beginning of an EQUATION that was told already");
        Edges.due("told twice", Edges.reading("a=1;a=1;"), -10 - 4);
        Edges.due("told twice behind others", Edges.reading("a=1;b=2; h=3;b=2;"), -10 - 13);
        Edges.due("told twice, the text ends there", Edges.reading("h=1;h"), -10 - 4);
        Edges.due("told twice ahead of a wrong byte", Edges.reading("a=1;a=4;"), -10 - 4);
        Edges.due("told twice behind a wrong byte", Edges.reading("a=4;a=1;"), -10 - 2);
        Edges.due("a letter in a term is told but once", Edges.reading("a=b;b=1;"), 2);
        LoopTypes x = Edges.having("a=1;");
        Edges.due("a letter that another text told", Edges.reading(x, "a=2;"), 1);
    }

    private static void lettersWithoutType() {
        Edges.sentence("one in a TERM that has no TYPE and is told by none");
        for (char c = 'b'; c <= 'h'; c++) {
            Edges.due("read of a=" + c, Edges.reading("a=" + c + ";"), -10 - 2);
            Edges.due("read of a=[a*" + c + "]", Edges.reading("a=[a*" + c + "];"), -10 - 5);
        }
        LoopTypes x = Edges.having("g=1;");
        Edges.due("a letter that has a TYPE", Edges.reading(x, "a=g;"), 1);
        x.back();
        x.back();
        Edges.due("a letter that has a TYPE no more", x.read(), -10 - 2);
        Edges.sentence("found behind all others");
        String[] others = {"a=h;b", "a=h;b=", "a=h;b=1", "a=h;b=(", "a=h;b=[1", "a=h;1", "a=h;b=4;", "a=h;b=1];", "a=h;a=1;", "a=h;b==1;"};
        int[] places = {5, 6, 7, 7, 8, 4, 6, 7, 4, 6};
        for (int at = 0; at < others.length; at++) {
            Edges.due("read of " + others[at], Edges.reading(others[at]), -10 - places[at]);
        }
        Edges.sentence("the first such one");
        Edges.due("of two in a term", Edges.reading("a=[1]*h>g;"), -10 - 6);
        Edges.due("of two in two terms", Edges.reading("c=c*[f];a=e;"), -10 - 5);
        Edges.due("one that is told behind is none", Edges.reading("c=a*[b];a=e;b=1;"), -10 - 10);
        Edges.due("one that has a TYPE is none", Edges.reading(Edges.having("g=1;h=2;"), "a=g*(f>h);"), -10 - 5);
        Edges.due("as the last", Edges.reading("a=1;b=2;c=d;"), -10 - 10);
    }

    private static void lettersAlone() {
        Edges.sentence("Behind these: the first letter at the beginning of an EQUATION that stands for itself");
        Edges.due("behind one without a TYPE", Edges.reading("a=a;b=h;"), -10 - 6);
        Edges.due("behind a wrong byte", Edges.reading("a=a;b=4;"), -10 - 6);
        Edges.due("behind the text's end", Edges.reading("a=a;b=1"), -10 - 7);
        Edges.due("behind a letter told twice", Edges.reading("a=a;a=1;"), -10 - 4);
        Edges.sentence("that stands for itself by letters alone (a=b;b=a;): its place");
        Edges.due("by itself", Edges.reading("  h=h;"), -10 - 2);
        Edges.due("by two", Edges.reading("b=a;a=b;"), -10);
        Edges.due("the first, not the least", Edges.reading("d=1;c=b;b=c;a=a;"), -10 - 4);
        Edges.due("not one that comes to a circle alone", Edges.reading("a=b;b=c;c=b;"), -10 - 4);
        Edges.due("by all eight", Edges.reading("a=b;b=c;c=d;d=e;e=f;f=g;g=h;h=a;"), -10);
        Edges.due("the last of eight", Edges.reading("a=b;b=c;c=d;d=e;e=f;f=g;g=h;h=h;"), -10 - 28);
        Edges.due("the last two of eight", Edges.reading("a=b;b=c;c=d;d=e;e=f;f=g;g=h;h=g;"), -10 - 24);
        Edges.due("through brackets", Edges.reading("a=(b);b=((c));c=(((a)));"), -10);
        Edges.due("though it has a TYPE", Edges.reading(Edges.having("a=1;b=2;"), "b=a;a=b;"), -10);
        Edges.sentence("by letters alone: not through a HEAD, though seven letters lead to it");
        LoopTypes seven = Edges.having("a=[b];b=c;c=d;d=e;e=f;f=g;g=h;h=a;");
        for (int name = 0; name < 8; name++) {
            Edges.isType(seven, name, "[a]");
        }
        Edges.sentence("by letters alone: not through a HEAD");
        for (String by : new String[] {"[a]", "a*1", "1*a", "a>1", "1>a"}) {
            Edges.due("read of " + by, Edges.reading("a=b;b=c;c=" + by + ";"), 3);
        }
    }

    private static void whatLettersStandFor() {
        Edges.sentence("A letter that is told by an EQUATION of THE TEXT (before or behind) stands for the TYPE told so");
        LoopTypes x = Edges.having("a=0;b=0;c=0;", "b=[a];a=1;c=[a];");
        Edges.isType(x, 1, "[1]");
        Edges.isType(x, 2, "[1]");
        Edges.sentence("A letter that is told by an EQUATION of THE TEXT: by itself");
        Edges.due("read by itself", Edges.reading(x, "a=[a];"), 1);
        Edges.answers(x, "size(0)", 1);
        Edges.sentence("another one for that which it has");
        Edges.due("read by others", Edges.reading(x, "a=[b];d=c*b;"), 2);
        Edges.isType(x, 0, "[[1]]");
        Edges.isType(x, 3, "[1]*[1]");
        Edges.isType(x, 1, "[1]");
        Edges.sentence("another one for that which it has: all the others, each of SIZE 40");
        LoopTypes large = Edges.having(LOOP);
        for (int name = 1; name < 8; name++) {
            large.copy(0, name);
        }
        Edges.due("read with the last", Edges.reading(large, "a=" + Edges.rows(39, "h") + ";"), 1);
        Edges.answers(large, "size(0)", 40);
        Edges.answers(large, "way(0, 1)", 39);
        Edges.due("read of a pair of what was read", Edges.reading(large, "b=a*a;"), 1);
        Edges.answers(large, "alike(1, 7)", 1);
        Edges.due("read with all", Edges.reading(large, "a=b*c*d*e*f*g*h;"), -4);
        Edges.due("read with all, in pairs that are there", Edges.reading(large, "a=[(b)];b=[c];c=[d];d=[e];e=[f];f=[g];g=[h];"), 7);
        Edges.answers(large, "way(0, 7)", 7);
    }

    private static void orders() {
        Edges.sentence("ORDERS have a KIND, 0 .. 4 (THE ORDER's is 0 at first)");
        Edges.answers(new LoopTypes(), "told(5)", 0);
        // By each KIND: which of the HEADS 0 to 3 are under which, row by row.
        String[] heads = {"1111011100110001", "1111010100110001", "1111011100110001", "1000010000100001", "1111011101110001"};
        String[] words = {"0 FULL x is UNDER y: x is VOID; y is ANY; both have the HEAD INT, or NUM; x is INT, y NUM",
            "1 STIFF (a FULL): as FULL, but INT is not UNDER NUM", "2 BOLD (a FULL): as FULL",
            "3 BARE (a STIFF): as STIFF, but VOID is UNDER VOID alone, ANY alone UNDER ANY",
            "4 SLACK (a BOLD): as BOLD, but also NUM is UNDER INT"};
        LoopTypes x = Edges.having("a=0;b=1;c=2;d=3;");
        for (int kind = 0; kind < 5; kind++) {
            Edges.sentence(words[kind]);
            x.order(kind);
            for (int at = 0; at < 16; at++) {
                Edges.answers(x, "under(" + at / 4 + ", " + at % 4 + ")", heads[kind].charAt(at) - '0');
            }
            unlikeParts(kind, heads[kind]);
        }
    }

    /** Each HEAD with PARTS, each PART by itself: it is under as its parts are, or as they are changed about. */
    private static void unlikeParts(int kind, String heads) {
        String[] terms = {"[x]", "x*1", "1*x", "x>1", "1>x"};
        for (int term = 0; term < terms.length; term++) {
            boolean about = term == 3 && kind != 2 && kind != 4;
            for (int at = 0; at < 16; at++) {
                String low = terms[term].replace("x", "" + at / 4);
                String high = terms[term].replace("x", "" + at % 4);
                LoopTypes x = Edges.having("a=" + low + ";b=" + high + ";");
                x.order(kind);
                int want = heads.charAt(about ? at % 4 * 4 + at / 4 : at) - '0';
                Edges.due(low + " under " + high + " by " + kind, x.under(0, 1), want);
                Edges.due(low + " apart " + high + " by " + kind, x.apart(0, 1, -1), want == 1 ? -6 : 1);
            }
        }
    }

    private static void claimsThatComeBack() {
        Edges.sentence("a claim that comes back to itself holds");
        LoopTypes x = Edges.having("a=[a];b=[[b]];c=c*1;d=(d*1)*1;e=e>e;f=f>(f>f);");
        for (int kind = 0; kind < 5; kind++) {
            x.order(kind);
            for (int a = 0; a < 6; a += 2) {
                Edges.answers(x, "under(" + a + ", " + (a + 1) + ")", 1);
                Edges.answers(x, "under(" + (a + 1) + ", " + a + ")", 1);
            }
        }
    }

    private static void apartAtOnce() {
        Edges.sentence("the shortest row of STEPS: none, where the HEADS do not go");
        LoopTypes x = Edges.having("a=1;b=2;c=[1];d=1*1;e=1>1;f=3;g=0;");
        for (int name = 2; name < 6; name++) {
            Edges.answers(x, "apart(" + name + ", 0, -1)", 0);
            Edges.answers(x, "apart(" + name + ", 0, 0)", -5);
            Edges.answers(x, "apart(" + name + ", 6, -1)", 0);
        }
        Edges.sentence("APART, from x to y: where x is not UNDER y");
        for (int name = 0; name < 7; name++) {
            Edges.answers(x, "apart(6, " + name + ", -1)", -6);
            Edges.answers(x, "apart(" + name + ", 5, 0)", -6);
        }
    }

    private static void steps(LoopTypes x, String steps) {
        Edges.answers(x, "apart(0, 1, -1)", steps.length());
        for (int k = 0; k < steps.length(); k++) {
            Edges.answers(x, "apart(0, 1, " + k + ")", steps.charAt(k) - '0');
        }
        Edges.answers(x, "apart(0, 1, " + steps.length() + ")", -5);
    }

    private static void apartTheShortest() {
        Edges.sentence("the shortest row of STEPS (PART 0, PART 1)");
        steps(Edges.having("a=[[[2]]]*((1*2)*1);b=[[[1]]]*((1*1)*1);"), "101");
        steps(Edges.having("a=[[2]]*[[[2]]];b=[[1]]*[[[1]]];"), "000");
        Edges.sentence("the shortest row of STEPS: PART 0 comes back to the claim itself");
        steps(Edges.having("a=a*2;b=b*1;"), "1");
        steps(Edges.having("a=(a*1)*2;b=(b*2)*1;"), "1");
        steps(Edges.having("a=a*(a*2);b=b*(b*1);"), "11");
        Edges.sentence("of like lengths the one with 0 first");
        steps(Edges.having("a=2*2;b=1*1;"), "0");
        steps(Edges.having("a=(1*2)*(2*2);b=(1*1)*(1*1);"), "01");
        steps(Edges.having("a=(1*1)*(2*2);b=(1*1)*(1*1);"), "10");
        steps(Edges.having("a=((1*1)*(2*2))*((2*2)*(2*2));b=((1*1)*(1*1))*((1*1)*(1*1));"), "010");
    }

    private static void apartTheLongest() {
        Edges.sentence("the shortest row of STEPS: longer than both SIZES, NUM meets INT behind 1405 others");
        LoopTypes x = Edges.having(Edges.pairLoop('a', Edges.word(38, '1', 37, '2')),
            Edges.pairLoop('b', Edges.word(37, '2', 36, '1')));
        Edges.answers(x, "size(0)", 40);
        Edges.answers(x, "size(1)", 39);
        Edges.answers(x, "under(0, 1)", 0);
        Edges.answers(x, "apart(0, 1, -1)", 1406);
        for (int k = 0; k < 1405; k += 108) {
            Edges.answers(x, "apart(0, 1, " + k + ")", 0);
        }
        Edges.answers(x, "apart(0, 1, 1404)", 0);
        Edges.answers(x, "apart(0, 1, 1405)", 1);
        Edges.answers(x, "apart(0, 1, 1406)", -5);
        Edges.answers(x, "apart(0, 1, 2147483647)", -5);
        x.order(4);
        Edges.answers(x, "apart(0, 1, 1405)", -6);
    }

    private static void apartChangedAbout() {
        Edges.sentence("(a STEP into PART 0 of FUNS, but by BOLD and SLACK, has them change about)");
        StringBuilder word = new StringBuilder("12".repeat(19));
        word.setCharAt(36, '2');
        LoopTypes x = Edges.having(Edges.funLoop('a', word.toString()), Edges.funLoop('b', Edges.word(37, '2', 35, '1')));
        x.turn(0, 6, 0);
        x.turn(1, 6, 1);
        Edges.answers(x, "size(0)", 40);
        Edges.answers(x, "apart(0, 1, -1)", 1405);
        Edges.answers(x, "apart(0, 1, 1403)", 0);
        Edges.answers(x, "apart(0, 1, 1404)", 1);
        Edges.answers(x, "apart(0, 1, 1405)", -5);
        x.order(1);
        Edges.answers(x, "apart(0, 1, -1)", 1);
        Edges.sentence("but by BOLD and SLACK");
        x.order(2);
        // Not changed about, NUM meets INT where the second first has it: behind 35 others.
        Edges.answers(x, "apart(0, 1, -1)", 36);
        Edges.answers(x, "apart(0, 1, 35)", 1);
        x.order(4);
        Edges.answers(x, "apart(0, 1, -1)", -6);
    }
}
