import java.util.ArrayList;
import java.util.List;
import java.util.function.Supplier;

/** The edges of the document's Terms under 2, of new objects, VERSIONS and counts (promises 1 and 31 to 33). */
public final class EdgesOfRefusals {
    /** One call of each kind that has numbers, right in the state rich: h alone has no TYPE. */
    private static final String[] RIGHT = {"type(59)", "order(4)", "under(0, 1)", "alike(0, 1)", "apart(1, 0, 0)",
        "near(0, 2, 3)", "shared(0, 1)", "way(1, 0)", "size(0)", "head(0)", "code(0)", "deep(0)", "heads(0)",
        "many(0, 1)", "looping(2)", "filled(0)", "least(0)", "signs(1, 0)", "base(1, 7)", "make(4, 0, 1, 7)",
        "make(5, 0, 1, 7)", "make(6, 0, 1, 7)", "part(0, 0, 7)", "copy(0, 7)", "bound(0, 0, 1, 7)", "bound(1, 0, 1, 7)",
        "swap(1, 0, 2, 7)", "cut(2, 3, 7)", "turn(2, 5, 7)", "turn(2, 6, 7)", "draw(3732, 12, 7)", "told(6)"};
    /** What is FULL in the state large. */
    private static final String[] LARGE = {"type(59)", "make(4, 0, 1, 7)", "make(5, 0, 2, 7)", "make(6, 2, 0, 0)",
        "bound(0, 0, 1, 7)", "bound(1, 1, 0, 0)", "swap(0, 2, 1, 7)", "cut(3, 9, 7)", "read()"};

    public static void main(String[] args) {
        newObject();
        noTypeAtAll();
        numbersNotAsTold();
        leastAndGreatest();
        nameToNeedsNone();
        refusedNo();
        refusedFull();
        firstOfSeveral();
        howOften();
        whatIsNotRefused();
        whatLeavesAVersion();
        eightVersions();
        olderOnesLost();
        manyVersions();
        backTakesNamesAlone();
        told();
        digest();
        fiveHundredAndTwelveCalls();
        Edges.end("edges of refusals");
    }

    private static void newObject() {
        Edges.sentence("As told; no NAME has a TYPE");
        LoopTypes x = new LoopTypes();
        for (int what = 0; what < 7; what++) {
            Edges.answers(x, "told(" + what + ")", 0);
        }
        Edges.answers(x, "clear()", 0);
        Edges.answers(x, "order(0)", 0);
        Edges.answers(x, "type(97)", 1);
        long h = 1901;
        for (int at = 0; at < 15; at++) {
            h *= 31;
        }
        Edges.answers(new LoopTypes(), "digest()", h);
    }

    private static void noTypeAtAll() {
        Edges.sentence("a NAME that is to have a TYPE has none: no TYPE at all");
        List<Supplier<LoopTypes>> states = List.of(States::empty, States::emptied);
        for (Supplier<LoopTypes> made : states) {
            Edges.due("names that have a TYPE", made.get().told(6), 0);
            for (String call : RIGHT) {
                String name = call.substring(0, call.indexOf('('));
                if (!List.of("type", "order", "base", "draw", "told").contains(name)) {
                    Edges.bad(made, call);
                }
            }
        }
    }

    private static void numbersNotAsTold() {
        Edges.sentence("BAD -2 a number is not as told, a NAME that is to have a TYPE has none");
        for (String call : RIGHT) {
            Edges.badAtEach(States::rich, call);
        }
        Edges.sentence("BAD -2 a number is not as told: all NAMES with a TYPE");
        for (String call : RIGHT) {
            Edges.badAtEach(States::allNames, call);
        }
    }

    private static void leastAndGreatest() {
        Edges.sentence("BAD -2 a number is not as told: the least and the greatest are");
        for (String call : RIGHT) {
            if (!call.startsWith("part")) {
                Edges.takesEnds(States::rich, call, 0, 6);
                Edges.takesEnds(States::allNames, call, 0, 7);
            }
        }
        for (int i = 0; i < 2; i++) {
            for (int to = 0; to < 8; to += 7) {
                LoopTypes x = Edges.having("a=1*2;h=1>3;");
                Edges.answers(x, "part(7, " + i + ", " + to + ")", 1);
                Edges.answers(x, "head(" + to + ")", 1 + 2 * i);
            }
        }
    }

    private static void nameToNeedsNone() {
        Edges.sentence("(A NAME told \"to\" needs none.)");
        String[] calls = {"base(1, 7)", "make(4, 0, 1, 7)", "part(0, 0, 7)", "copy(0, 7)", "bound(1, 0, 1, 7)",
            "swap(1, 0, 2, 7)", "cut(2, 3, 7)", "turn(2, 5, 7)", "draw(3732, 12, 7)"};
        for (String call : calls) {
            LoopTypes x = States.rich();
            Edges.answers(x, "size(7)", -2);
            long size = Edges.call(x, call);
            Edges.answers(x, "size(7)", size);
            Edges.answers(x, "told(6)", 255);
            Edges.answers(x, "told(0)", 4);
            Edges.answers(x, "back()", 7);
            Edges.answers(x, "told(6)", 127);
        }
        Edges.sentence("(A NAME told \"to\" needs none.): it may be one that is asked for");
        LoopTypes x = Edges.having("a=1*2;");
        Edges.answers(x, "make(6, 0, 0, 0)", 4);
        Edges.isType(x, 0, "(1*2)>(1*2)");
        Edges.answers(x, "swap(0, 0, 0, 0)", 4);
        Edges.answers(x, "part(0, 1, 0)", 3);
        Edges.isType(x, 0, "1*2");
    }

    private static void refusedNo() {
        Edges.sentence("NO -3 as told");
        Edges.no(States::rich, "part(3, 0, 7)", "part(3, 1, 7)", "part(5, 0, 3)", "part(6, 1, 6)");
        Edges.no(States::allNames, "part(4, 1, 7)", "part(5, 1, 0)", "part(3, 0, 3)");
        Edges.no(LoopTypes::new, "back()");
        Edges.no(States::empty, "back()");
        Edges.no(States::emptied, "back()");
        Edges.no(() -> Edges.having("e=[1];"), "part(4, 1, 4)");
    }

    private static void refusedFull() {
        Edges.sentence("FULL -4 a TYPE would be of SIZE above 40");
        Edges.full(States::large, LARGE);
    }

    private static void firstOfSeveral() {
        Edges.sentence("the first of: BAD .. FULL");
        for (String call : LARGE) {
            if (!call.equals("read()")) {
                Edges.badAtEach(States::large, call);
            }
        }
        Edges.sentence("the first of: BAD .. NO");
        for (String call : new String[] {"part(3, 0, 7)", "part(5, 1, 7)"}) {
            Edges.badAtEach(States::rich, call);
        }
        Edges.badAtEach(() -> Edges.having("e=[1];"), "part(4, 1, 4)");
        Edges.sentence("-10 less the FAULT: all stays; FULL: the FAULT is first");
        String large = "a=" + Edges.rows(40, "1") + ";";
        String[] behind = {"b", "b=4;", "a=1;", "b=h;", "b=b;"};
        int[] places = {1, 2, 0, 2, 0};
        for (int at = 0; at < behind.length; at++) {
            String text = large + behind[at];
            Edges.asks(() -> typed(text), "read()", -10 - large.length() - places[at]);
        }
    }

    private static LoopTypes typed(String text) {
        LoopTypes x = Edges.having("c=1;");
        x.clear();
        Edges.type(x, text);
        return x;
    }

    private static void howOften() {
        Edges.sentence("How often refused: BAD (0), NO (1), FULL (2)");
        LoopTypes x = Edges.having("a=" + Edges.rows(39, "1") + ";b=1;");
        for (int time = 1; time <= 60; time++) {
            x.apart(0, 0, -2);
            x.part(1, 0, 1);
            x.make(5, 0, 0, 7);
            for (int what = 0; what < 3; what++) {
                Edges.answers(x, "told(" + what + ")", time);
            }
        }
    }

    private static void whatIsNotRefused() {
        Edges.sentence("Refused, changing nothing but how often: what is not refused, but answers below 0, is not counted");
        Edges.asks(States::rich, "apart(0, 0, 0)", -6);
        Edges.asks(States::rich, "apart(0, 0, 2147483647)", -6);
        Edges.asks(States::rich, "apart(0, 1, 5)", -5);
        Edges.asks(States::rich, "way(0, 2)", -1);
        Edges.asks(States::rich, "deep(2)", -1);
        Edges.asks(States::rich, "heads(2)", -1);
        Edges.asks(States::rich, "least(3)", -1);
        Edges.asks(States::rich, "read()", -10 - 11);
        Edges.asks(LoopTypes::new, "read()", -10);
        Edges.sentence("Refused, changing nothing but how often: questions change nothing either");
        for (String call : RIGHT) {
            if (List.of("under", "alike", "near", "shared", "size", "head", "code", "many", "looping", "filled", "signs", "told")
                    .contains(call.substring(0, call.indexOf('(')))) {
                Edges.asks(States::rich, call, Edges.call(States.rich(), call));
            }
        }
        Edges.asks(States::rich, "digest()", States.rich().digest());
    }

    private static void whatLeavesAVersion() {
        Edges.sentence("VERSIONS: each call that gives a NAME a TYPE (told: V) leaves one behind");
        String[] gives = {"base(1, 7)", "make(4, 0, 1, 7)", "make(5, 0, 1, 7)", "make(6, 0, 1, 7)", "part(0, 0, 7)",
            "copy(0, 7)", "copy(0, 0)", "bound(0, 0, 1, 7)", "bound(1, 0, 1, 7)", "swap(1, 0, 2, 7)", "cut(2, 3, 7)",
            "turn(2, 5, 7)", "turn(3, 6, 3)", "draw(3732, 12, 7)", "read()"};
        for (String call : gives) {
            LoopTypes x = States.allNames();
            Edges.answers(x, "told(3)", 7);
            List<Long> names = Edges.view(x).subList(3, 12);
            Edges.call(x, call);
            Edges.answers(x, "told(3)", 8);
            Edges.answers(x, "back()", 7);
            Edges.due("names behind back of " + call + " as ahead (1)", names.equals(Edges.view(x).subList(3, 12)) ? 1 : 0, 1);
        }
        Edges.sentence("(told: V): no other call");
        List<String> others = new ArrayList<>(List.of(RIGHT).subList(0, 18));
        others.addAll(List.of("told(3)", "digest()", "clear()", "read()"));
        LoopTypes x = States.allNames();
        for (String call : others) {
            Edges.call(x, call);
            Edges.answers(x, "told(3)", 7);
        }
        Edges.sentence("V (one for all)");
        LoopTypes all = Edges.having("a=0;b=1;c=2;d=3;e=[0];f=[1];g=[2];h=[3];");
        Edges.answers(all, "told(3)", 1);
        Edges.answers(all, "read()", 8);
        Edges.answers(all, "told(3)", 2);
        Edges.answers(all, "back()", 1);
        Edges.answers(all, "told(6)", 255);
        Edges.answers(all, "back()", 0);
        Edges.answers(all, "told(6)", 0);
    }

    /** So many calls told V: the n-th one gives name 0 a TYPE of SIZE n. */
    private static LoopTypes grown(int versions) {
        LoopTypes x = new LoopTypes();
        for (int at = 1; at <= versions; at++) {
            Edges.answers(x, at == 1 ? "base(1, 0)" : "make(4, 0, 0, 0)", at);
            Edges.answers(x, "told(3)", Math.min(at, 8));
        }
        return x;
    }

    private static void eightVersions() {
        Edges.sentence("to go back to, all NAMES as ahead of it, 8 at most: 8");
        LoopTypes x = grown(8);
        for (int left = 7; left > 0; left--) {
            Edges.answers(x, "back()", left);
            Edges.answers(x, "size(0)", left);
        }
        Edges.answers(x, "back()", 0);
        Edges.answers(x, "told(6)", 0);
        Edges.answers(x, "back()", -3);
        Edges.sentence("to go back to: 1");
        x = grown(1);
        Edges.answers(x, "back()", 0);
        Edges.answers(x, "told(6)", 0);
        Edges.answers(x, "back()", -3);
    }

    private static void olderOnesLost() {
        Edges.sentence("8 at most, older ones lost: what comes behind 8");
        for (int versions = 9; versions <= 40; versions++) {
            LoopTypes x = grown(versions);
            for (int left = 7; left >= 0; left--) {
                Edges.answers(x, "back()", left);
                Edges.answers(x, "size(0)", versions - 8 + left);
            }
            Edges.answers(x, "back()", -3);
            Edges.answers(x, "size(0)", versions - 8);
        }
        Edges.no(() -> goneBack(9), "back()");
        Edges.sentence("older ones lost: what was lost does not come back");
        LoopTypes x = grown(9);
        x.back();
        x.back();
        Edges.answers(x, "told(3)", 6);
        Edges.answers(x, "base(2, 7)", 1);
        Edges.answers(x, "told(3)", 7);
        Edges.answers(x, "back()", 6);
        Edges.answers(x, "size(0)", 7);
        Edges.answers(x, "size(7)", -2);
        for (int left = 5; left >= 0; left--) {
            Edges.answers(x, "back()", left);
            Edges.answers(x, "size(0)", left + 1);
        }
        Edges.answers(x, "back()", -3);
    }

    private static LoopTypes goneBack(int versions) {
        LoopTypes x = grown(versions);
        for (int at = 0; at < 8; at++) {
            x.back();
        }
        return x;
    }

    private static void manyVersions() {
        Edges.sentence("8 at most: behind hundreds, forth and back");
        LoopTypes x = new LoopTypes();
        for (int at = 0; at < 400; at++) {
            x.base(at % 4, at % 8);
        }
        for (int left = 7; left >= 0; left--) {
            Edges.answers(x, "back()", left);
            int at = 392 + left;
            Edges.answers(x, "head(" + at % 8 + ")", at % 4);
        }
        Edges.answers(x, "back()", -3);
        for (int at = 0; at < 20; at++) {
            Edges.answers(x, "copy(0, 0)", 1);
            Edges.answers(x, "base(3, 1)", 1);
            Edges.answers(x, "back()", Math.min(7, at + 1));
            Edges.answers(x, "head(1)", 1);
        }
    }

    private static void backTakesNamesAlone() {
        Edges.sentence("VERSION: all NAMES as ahead of the last call told V");
        LoopTypes x = Edges.having("a=1;b=2;", "b=3;c=a;");
        x.size(7);
        x.part(0, 0, 0);
        x.order(3);
        x.clear();
        Edges.type(x, "d=1;");
        Edges.answers(x, "back()", 1);
        int[] told = {1, 1, 0, 1, 4, 3, 3};
        for (int what = 0; what < 7; what++) {
            Edges.answers(x, "told(" + what + ")", told[what]);
        }
        Edges.answers(x, "head(1)", 2);
        Edges.answers(x, "read()", 1);
        Edges.answers(x, "told(6)", 11);
    }

    private static void told() {
        Edges.sentence("VERSIONS (3), bytes of THE TEXT (4), THE ORDER's KIND (5), NAMES that have a TYPE (6, as bits)");
        LoopTypes x = new LoopTypes();
        for (int bytes = 1; bytes <= 120; bytes++) {
            x.type(32);
            Edges.answers(x, "told(4)", bytes);
        }
        x.type(32);
        Edges.answers(x, "told(4)", 120);
        for (int kind = 4; kind >= 0; kind--) {
            x.order(kind);
            Edges.answers(x, "told(5)", kind);
        }
        for (int name = 0; name < 8; name++) {
            LoopTypes one = new LoopTypes();
            one.base(0, name);
            Edges.answers(one, "told(6)", 1 << name);
        }
        Edges.sentence("How often refused: told itself, too");
        Edges.badAtEach(States::rich, "told(0)");
        LoopTypes y = new LoopTypes();
        Edges.answers(y, "told(7)", -2);
        Edges.answers(y, "told(-1)", -2);
        Edges.answers(y, "told(0)", 2);
    }

    private static long digestOf(long[] values) {
        long h = 1901;
        for (long v : values) {
            h = 31 * h + v;
        }
        return h;
    }

    private static void digest() {
        Edges.sentence("then h = 31 h + v for each v: told(0) to told(6); of each NAME THE CODE (0: none)");
        LoopTypes x = Edges.having("b=1*[b];h=3;");
        x.size(0);
        Edges.answers(x, "digest()", digestOf(new long[] {1, 0, 0, 1, 12, 0, 130, 0, x.code(1), 0, 0, 0, 0, 0, 34}));
        Edges.sentence("of each NAME THE CODE: all NAMES with one, of SIZE 40");
        LoopTypes all = Edges.having("a=" + Edges.rows(39, "1") + ";");
        for (int name = 1; name < 8; name++) {
            all.copy(0, name);
        }
        all.copy(0, 0);
        all.make(5, 0, 0, 0);
        all.order(4);
        long c = all.code(0);
        Edges.answers(all, "digest()", digestOf(new long[] {0, 0, 1, 8, 82, 4, 255, c, c, c, c, c, c, c, c}));
        Edges.answers(all, "digest()", digestOf(new long[] {0, 0, 1, 8, 82, 4, 255, c, c, c, c, c, c, c, c}));
    }

    private static void fiveHundredAndTwelveCalls() {
        Edges.sentence("An object is used for at most 512 calls: the last one is as the first");
        LoopTypes x = new LoopTypes();
        for (int at = 0; at < 255; at++) {
            Edges.answers(x, "draw(3732, 12, 0)", 10);
            Edges.answers(x, "base(" + at % 4 + ", 0)", 1);
        }
        Edges.answers(x, "back()", 7);
        Edges.answers(x, "size(0)", 10);
    }
}
