import java.util.ArrayList;
import java.util.List;
import java.util.function.Supplier;

/** What the tests of the document's edges share: calls told as texts, and refusals beside a twin. */
final class Edges {
    /** What the numbers of each call may be: a NAME that has a TYPE (a), a NAME to (t), or least..greatest. */
    private static final String[] NUMBERS = {
        "type 0..127", "clear", "read", "order 0..4", "under a a", "alike a a", "apart a a -1..2147483647",
        "near a a 0..60", "shared a a", "way a a", "size a", "head a", "code a", "deep a", "heads a", "many a 0..6",
        "looping a", "filled a", "least a", "signs a a", "base 0..3 t", "make 4..6 a a t", "part a 0..1 t", "copy a t",
        "bound 0..1 a a t", "swap a a a t", "cut a 0..9 t", "turn a 5..6 t", "draw 0..999999 1..12 t", "back",
        "told 0..6", "digest"};

    private static String words = "";
    private static int sentences;
    private static int checks;
    private static int wrong;

    private Edges() {
    }

    /** The checks behind this belong to a sentence of the document, told by its own words. */
    static void sentence(String said) {
        words = said;
        sentences++;
    }

    static void due(String what, long got, long want) {
        checks++;
        if (got != want) {
            wrong++;
            System.out.println("'" + words + "': " + what + " answered " + got + ", due is " + want);
        }
    }

    static void end(String name) {
        System.out.println(name + ": " + (wrong == 0 ? "all " + checks + " checks of " + sentences + " sentences hold"
            : wrong + " of " + checks + " checks do not hold"));
        if (wrong != 0) {
            System.exit(1);
        }
    }

    // ---- objects and calls

    static void type(LoopTypes x, String text) {
        for (int at = 0; at < text.length(); at++) {
            x.type(text.charAt(at));
        }
    }

    /** The text is told anew and read. */
    static long reading(LoopTypes x, String text) {
        x.clear();
        type(x, text);
        return x.read();
    }

    static long reading(String text) {
        return reading(new LoopTypes(), text);
    }

    /** A new object that has read the texts, one behind the other. */
    static LoopTypes having(String... texts) {
        LoopTypes x = new LoopTypes();
        for (String text : texts) {
            due("read of " + text, reading(x, text), text.chars().filter(c -> c == ';').count());
        }
        return x;
    }

    /** Whether a NAME has the TYPE that a term tells (its own letter is a). */
    static void isType(LoopTypes x, int name, String term) {
        due("code of name " + name + " as of " + term, x.code(name), having("a=" + term + ";").code(0));
    }

    /** So many rows around a term. */
    static String rows(int many, String term) {
        return "[".repeat(many) + term + "]".repeat(many);
    }

    /** An equation: pairs without end, whose parts 1 are the word's digits, over and over, from the top. */
    static String pairLoop(char name, String word) {
        StringBuilder text = new StringBuilder().append(name).append('=').append(name);
        for (int at = word.length() - 1; at >= 0; at--) {
            text.append('*').append(word.charAt(at));
        }
        return text.append(';').toString();
    }

    /** An equation: functions without end, whose parts 0 are the word's digits, over and over, from the top. */
    static String funLoop(char name, String word) {
        StringBuilder text = new StringBuilder().append(name).append('=');
        for (int at = 0; at < word.length(); at++) {
            text.append(word.charAt(at)).append('>');
        }
        return text.append(name).append(';').toString();
    }

    /** A word of one digit, but for another one at a place. */
    static String word(int length, char most, int place, char one) {
        StringBuilder word = new StringBuilder(String.valueOf(most).repeat(length));
        word.setCharAt(place, one);
        return word.toString();
    }

    private static String nameOf(String call) {
        return call.substring(0, call.indexOf('('));
    }

    private static int[] numbersOf(String call) {
        String told = call.substring(call.indexOf('(') + 1, call.length() - 1);
        if (told.isBlank()) {
            return new int[0];
        }
        String[] each = told.split(",");
        int[] numbers = new int[each.length];
        for (int at = 0; at < each.length; at++) {
            numbers[at] = Integer.parseInt(each[at].trim());
        }
        return numbers;
    }

    private static String callOf(String name, int[] numbers) {
        StringBuilder text = new StringBuilder(name).append('(');
        for (int at = 0; at < numbers.length; at++) {
            text.append(at > 0 ? ", " : "").append(numbers[at]);
        }
        return text.append(')').toString();
    }

    static long call(LoopTypes x, String call) {
        int[] n = numbersOf(call);
        switch (nameOf(call)) {
            case "type": return x.type(n[0]);
            case "clear": return x.clear();
            case "read": return x.read();
            case "order": return x.order(n[0]);
            case "under": return x.under(n[0], n[1]);
            case "alike": return x.alike(n[0], n[1]);
            case "apart": return x.apart(n[0], n[1], n[2]);
            case "near": return x.near(n[0], n[1], n[2]);
            case "shared": return x.shared(n[0], n[1]);
            case "way": return x.way(n[0], n[1]);
            case "signs": return x.signs(n[0], n[1]);
            case "back": return x.back();
            case "told": return x.told(n[0]);
            case "digest": return x.digest();
            default: return n.length > 1 ? callOfMany(x, nameOf(call), n) : callOfOne(x, nameOf(call), n[0]);
        }
    }

    private static long callOfOne(LoopTypes x, String name, int a) {
        switch (name) {
            case "size": return x.size(a);
            case "head": return x.head(a);
            case "code": return x.code(a);
            case "deep": return x.deep(a);
            case "heads": return x.heads(a);
            case "looping": return x.looping(a);
            case "filled": return x.filled(a);
            case "least": return x.least(a);
            default: throw new IllegalArgumentException(name);
        }
    }

    private static long callOfMany(LoopTypes x, String name, int[] n) {
        switch (name) {
            case "many": return x.many(n[0], n[1]);
            case "base": return x.base(n[0], n[1]);
            case "make": return x.make(n[0], n[1], n[2], n[3]);
            case "part": return x.part(n[0], n[1], n[2]);
            case "copy": return x.copy(n[0], n[1]);
            case "bound": return x.bound(n[0], n[1], n[2], n[3]);
            case "swap": return x.swap(n[0], n[1], n[2], n[3]);
            case "cut": return x.cut(n[0], n[1], n[2]);
            case "turn": return x.turn(n[0], n[1], n[2]);
            case "draw": return x.draw(n[0], n[1], n[2]);
            default: throw new IllegalArgumentException(name);
        }
    }

    static void answers(LoopTypes x, String call, long want) {
        due(call, call(x, call), want);
    }

    // ---- what stays

    /** The names, and what else is told, but for how often was refused. */
    static List<Long> view(LoopTypes x) {
        List<Long> seen = new ArrayList<>();
        for (int what = 3; what < 7; what++) {
            seen.add((long) x.told(what));
        }
        long bits = x.told(6);
        for (int name = 0; name < 8; name++) {
            seen.add((bits >> name & 1) == 0 ? 0 : x.code(name));
        }
        return seen;
    }

    /** All that can be seen: the versions are gone back through, the text is ended by ; and read. */
    private static List<Long> unfolded(LoopTypes x) {
        List<Long> seen = view(x);
        for (int left = x.told(3); left > 0; left--) {
            seen.add((long) x.back());
            seen.addAll(view(x));
        }
        seen.add((long) x.read());
        seen.addAll(view(x));
        seen.add((long) x.type(';'));
        seen.add((long) x.read());
        seen.addAll(view(x));
        return seen;
    }

    private static List<Long> counts(LoopTypes x) {
        return List.of((long) x.told(0), (long) x.told(1), (long) x.told(2));
    }

    /** The answer, the one count that grows by one (or none: -1), and a twin without the call is as this one. */
    private static void leavesAll(Supplier<LoopTypes> made, String call, long answer, int count) {
        LoopTypes x = made.get();
        LoopTypes twin = made.get();
        due(call, call(x, call), answer);
        List<Long> want = new ArrayList<>(counts(twin));
        if (count >= 0) {
            want.set(count, want.get(count) + 1);
        }
        due("told(0) to told(2) behind " + call + " as due (1)", want.equals(counts(x)) ? 1 : 0, 1);
        due("what there is behind " + call + " as ahead of it (1)", unfolded(twin).equals(unfolded(x)) ? 1 : 0, 1);
    }

    static void bad(Supplier<LoopTypes> made, String... calls) {
        for (String call : calls) {
            leavesAll(made, call, call.startsWith("apart") ? -10 : -2, 0);
        }
    }

    static void no(Supplier<LoopTypes> made, String... calls) {
        for (String call : calls) {
            leavesAll(made, call, -3, 1);
        }
    }

    static void full(Supplier<LoopTypes> made, String... calls) {
        for (String call : calls) {
            leavesAll(made, call, -4, 2);
        }
    }

    /** A call that answers, but is not refused and changes nothing. */
    static void asks(Supplier<LoopTypes> made, String call, long answer) {
        leavesAll(made, call, answer, -1);
    }

    // ---- numbers that are not as told

    private static String[] kindsOf(String call) {
        for (String numbers : NUMBERS) {
            String[] kinds = numbers.split(" ");
            if (kinds[0].equals(nameOf(call))) {
                return kinds;
            }
        }
        throw new IllegalArgumentException(call);
    }

    private static List<Integer> wrongNumbers(LoopTypes x, String kind) {
        List<Integer> not = new ArrayList<>(List.of(Integer.MIN_VALUE));
        String[] ends = kind.length() > 1 ? kind.split("\\.\\.") : new String[] {"0", "7"};
        not.add(Integer.parseInt(ends[0]) - 1);
        if (Integer.parseInt(ends[1]) < Integer.MAX_VALUE) {
            not.add(Integer.parseInt(ends[1]) + 1);
            not.add(Integer.MAX_VALUE);
        }
        for (int name = 0; kind.equals("a") && name < 8; name++) {
            if ((x.told(6) >> name & 1) == 0) {
                not.add(name);
            }
        }
        return not;
    }

    /** A call that is BAD as soon as any one of its numbers is not as told, and once if all are not. */
    static void badAtEach(Supplier<LoopTypes> made, String call) {
        String[] kinds = kindsOf(call);
        int[] all = numbersOf(call);
        for (int at = 0; at < all.length; at++) {
            List<Integer> not = wrongNumbers(made.get(), kinds[at + 1]);
            all[at] = not.get(1);
            for (int number : not) {
                int[] numbers = numbersOf(call);
                numbers[at] = number;
                bad(made, callOf(nameOf(call), numbers));
            }
        }
        bad(made, callOf(nameOf(call), all));
    }

    /** The call's least and greatest numbers (for NAMES: of those that are told) are not refused. */
    static void takesEnds(Supplier<LoopTypes> made, String call, int leastName, int greatestName) {
        String[] kinds = kindsOf(call);
        int count = numbersOf(call).length;
        for (int choice = 0; choice < 1 << count; choice++) {
            int[] numbers = numbersOf(call);
            for (int at = 0; at < count; at++) {
                boolean greatest = (choice >> at & 1) == 1;
                String kind = kinds[at + 1];
                String[] ends = kind.split("\\.\\.");
                numbers[at] = kind.equals("a") ? greatest ? greatestName : leastName
                    : kind.equals("t") ? greatest ? 7 : 0 : Integer.parseInt(ends[greatest ? 1 : 0]);
            }
            LoopTypes x = made.get();
            List<Long> before = counts(x);
            String told = callOf(nameOf(call), numbers);
            call(x, told);
            due(told + " is not refused (1)", before.equals(counts(x)) ? 1 : 0, 1);
        }
    }
}
