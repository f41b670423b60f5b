import java.util.ArrayList;
import java.util.List;

/**
 * "Refused, and nothing changes, the first of these: BAD .., STATE .., FULL." Each refused call is made on one of two objects that
 * had the same calls before; behind it both must answer alike in all that can be asked, and THE TEXT must go on alike.
 */
public final class RefusedTest {
    private static final int CALLS_MOST = 512;
    private static final int MIN = Integer.MIN_VALUE, MAX = Integer.MAX_VALUE;
    private static final String ITEMS = "always a|b|c;if a then b;may e;if a&c then !b;fact d|e;if d then 0;may f&a;if 1 then f;may b;fact 1;";
    private static int wrong = 0;
    private static int calls = 0;

    private interface Call {
        long on(AsARule x);
    }

    public static void main(String[] args) {
        badNumbers();
        fullText();
        faults();
        stateOfLearn();
        badIsFirst();
        readingChangesNothing();
        faultLeavesNothingBehind();
        System.out.println(wrong == 0 ? "what is refused changes nothing" : wrong + " refused calls are wrong");
        if (wrong != 0) {
            System.exit(1);
        }
    }

    // ---- helpers

    private static void due(String what, long got, long want) {
        if (got != want) {
            wrong++;
            System.out.println(what + " answered " + got + ", due is " + want);
        }
    }

    private static void type(AsARule x, String text) {
        for (int i = 0; i < text.length(); i += 8) {
            int n = Math.min(8, text.length() - i);
            long v = 0;
            for (int k = 0; k < n; k++) {
                v = v << 8 | text.charAt(i + k);
            }
            x.type(v, n);
            calls++;
        }
    }

    /** An object in which nothing is as at first; its question and its text are as told. */
    private static AsARule rich(String question, String text) {
        calls = 0;
        AsARule x = new AsARule();
        type(x, ITEMS);
        due("tell", x.tell(), 10);
        type(x, "if a|f then c&b");
        due("question", x.question(), 1);
        due("learn", x.learn(7) > 0 ? 1 : 0, 1);
        due("weight", x.weight(3, 2) + x.weight(2, 1) > 0 ? 1 : 0, 1);
        type(x, question);
        due("question " + question, x.question(), 1);
        type(x, text);
        calls += 6;
        return x;
    }

    /** All that can be asked of an object without changing it. */
    private static List<Long> seen(AsARule x) {
        List<Long> all = new ArrayList<>();
        for (int what = 0; what < 7; what++) {
            all.add((long) x.count(what));
        }
        for (int sort = 0; sort < 6; sort++) {
            for (int i = 0; i <= 4; i++) {
                all.add(x.worlds(sort, i));
            }
        }
        for (int w = 0; w < 64; w++) {
            all.add((long) x.gradeOf(w));
            all.add((long) x.doubt(w));
            if (w % 2 == 1) {
                all.add((long) x.breaks(w));
            }
        }
        for (int i = 0; i < 4; i++) {
            all.add(x.there(i));
            all.add((long) x.grade(i));
            all.add((long) x.so(i));
            all.add(x.best(i));
        }
        for (int k = -1; k < 4; k++) {
            all.add((long) x.ends(k));
            all.add(x.leaves(k));
            all.add((long) x.why(k));
        }
        all.add((long) x.held());
        all.add((long) x.believed());
        all.add(x.trace());
        calls += all.size();
        return all;
    }

    private static void same(String what, List<Long> got, List<Long> want) {
        for (int i = 0; i < want.size(); i++) {
            if (!got.get(i).equals(want.get(i))) {
                wrong++;
                System.out.println(what + " changed answer " + i + ": " + got.get(i) + " instead of " + want.get(i));
                return;
            }
        }
    }

    /** The call is refused with the answer that is due, and the object is then as one on which it was not made. */
    private static void refused(String what, String question, String text, Call call, long answer) {
        AsARule y = rich(question, text);
        List<Long> untouched = seen(y);
        AsARule x = rich(question, text);
        due(what, call.on(x), answer);
        same(what, seen(x), untouched);
        String rest = text.length() <= 380 ? " b" : "";
        for (AsARule each : new AsARule[] {x, y}) {
            type(each, rest);
        }
        due(what + ", bytes then", x.count(5), y.count(5));
        due(what + ", tell then", x.tell(), y.tell());
        due(what + ", question then", x.question(), y.question());
        due(what + ", WHEN then", x.worlds(5, 0), y.worlds(5, 0));
        due(what + ", THEN then", x.worlds(5, 1), y.worlds(5, 1));
        due(what + ", items then", x.count(1), y.count(1));
        due(what + ", forget then", x.forget(), y.forget());
        same(what + ", what was forgotten then", seenDoubts(x), seenDoubts(y));
        due("no object has more than " + CALLS_MOST + " calls", calls <= CALLS_MOST ? 1 : 0, 1);
    }

    private static List<Long> seenDoubts(AsARule x) {
        List<Long> all = new ArrayList<>();
        for (int w = 0; w < 64; w++) {
            all.add((long) x.doubt(w));
        }
        calls += 64 + 8;
        return all;
    }

    private static void bad(String what, Call call, long answer) {
        refused(what, "if a then c|e", "if c then", call, answer);
        refused(what + " of an empty text", "if a then c|e", "", call, answer);
    }

    // ---- each call that can be refused

    private static void badNumbers() {
        for (int n : new int[] {MIN, -1, 0, 9, MAX}) {
            bad("type " + n, x -> x.type(0x6161616161616161L, n), AsARule.BAD);
        }
        for (int i : new int[] {MIN, -1, 2, MAX}) {
            bad("worlds 5, " + i, x -> x.worlds(5, i), 0);
            bad("worlds 0, " + i, x -> x.worlds(0, i), 0);
        }
        bad("worlds 1, 4", x -> x.worlds(1, 4), 0);
        bad("worlds 2, 4", x -> x.worlds(2, 4), 0);
        bad("worlds 3, 2", x -> x.worlds(3, 2), 0);
        bad("worlds 4, 3", x -> x.worlds(4, 3), 0);
        bad("worlds -1, 0", x -> x.worlds(-1, 0), 0);
        bad("worlds 6, 0", x -> x.worlds(6, 0), 0);
        for (int k : new int[] {MIN, -2, 64, MAX}) {
            bad("there " + k, x -> x.there(k), 0);
            bad("grade " + k, x -> x.grade(k), AsARule.BAD);
            bad("gradeOf " + k, x -> x.gradeOf(k), AsARule.BAD);
            bad("breaks " + k, x -> x.breaks(k), AsARule.BAD);
            bad("so " + k, x -> x.so(k), AsARule.BAD);
            bad("best " + k, x -> x.best(k), 0);
            bad("ends " + k, x -> x.ends(k), AsARule.BAD);
            bad("leaves " + k, x -> x.leaves(k), 0);
            bad("why " + k, x -> x.why(k), AsARule.BAD);
            bad("doubt " + k, x -> x.doubt(k), AsARule.BAD);
            bad("learn " + k, x -> x.learn(k), AsARule.BAD);
            bad("weight " + k + ", 0", x -> x.weight(k, 0), AsARule.NO);
            bad("weight 3, " + k, x -> x.weight(3, k), AsARule.NO);
            bad("count " + k, x -> x.count(k), AsARule.BAD);
        }
        bad("there 3", x -> x.there(3), 0);
        bad("there -1", x -> x.there(-1), 0);
        bad("grade 4", x -> x.grade(4), AsARule.BAD);
        bad("grade -1", x -> x.grade(-1), AsARule.BAD);
        bad("so 4", x -> x.so(4), AsARule.BAD);
        bad("so -1", x -> x.so(-1), AsARule.BAD);
        bad("best 2", x -> x.best(2), 0);
        bad("best -1", x -> x.best(-1), 0);
        bad("leaves -1", x -> x.leaves(-1), 0);
        bad("doubt -1", x -> x.doubt(-1), AsARule.BAD);
        bad("learn 0", x -> x.learn(0), AsARule.BAD);
        bad("learn 21", x -> x.learn(21), AsARule.BAD);
        for (int kind = 0; kind < 4; kind++) {
            int k = kind;
            bad("weight " + k + ", 4", x -> x.weight(k, 4), AsARule.NO);
            bad("weight " + k + ", -1", x -> x.weight(k, -1), AsARule.NO);
        }
        bad("weight 4, 0", x -> x.weight(4, 0), AsARule.NO);
        bad("weight -1, 0", x -> x.weight(-1, 0), AsARule.NO);
        bad("count 7", x -> x.count(7), AsARule.BAD);
        bad("count -1", x -> x.count(-1), AsARule.BAD);
    }

    private static void fullText() {
        for (int n = 1; n <= 8; n++) {
            int size = n;
            refused("type " + n + " to 400", "c", " ".repeat(400), x -> x.type(-1L, size), AsARule.FULL);
            refused("type " + n + " to " + (401 - n), "c", " ".repeat(400 - n) + "d", x -> x.type(0x6262626262626262L, size), AsARule.FULL);
        }
    }

    private static void faults() {
        String[] texts = {"?", "always a;if b then c;fact d;may e", "always !a;" + "may a;".repeat(7), "if a then b", "b", "!", "a b",
            "fact c;".repeat(5), "if a then !a;".repeat(9), "always 0;".repeat(5), "may " + "!".repeat(9) + "a;", "if", "may a;?"};
        int[] faults = {0, 33, 46, 11, 0, 0, 0, 28, 104, 36, 12, 2, 6};
        for (int t = 0; t < texts.length; t++) {
            refused("tell " + texts[t], "if a then c", texts[t], AsARule::tell, -10 - faults[t]);
        }
        String[] questions = {"", "  ", "if a", "if a then", "if a then b;", "b c", "!", "b)", "(b", "may a;", "(".repeat(9), "if d then g"};
        int[] places = {0, 2, 4, 9, 11, 2, 1, 1, 2, 0, 8, 10};
        for (int q = 0; q < questions.length; q++) {
            refused("question " + questions[q], "if a then c", questions[q], AsARule::question, -10 - places[q]);
        }
    }

    private static void stateOfLearn() {
        for (String never : new String[] {"0", "!a&!b&!c", "if a then 0", "a&!a"}) {
            refused("learn 1 of " + never, never, "may", x -> x.learn(1), AsARule.STATE);
            refused("learn 20 of " + never, never, "may", x -> x.learn(20), AsARule.STATE);
        }
        for (String ever : new String[] {"1", "a|b|c", "if 0 then 1", "a|!a"}) {
            refused("learn 1 of " + ever, ever, "may", x -> x.learn(1), AsARule.STATE);
            refused("learn 20 of " + ever, ever, "may", x -> x.learn(20), AsARule.STATE);
        }
        for (String question : new String[] {"0", "1"}) {
            AsARule x = new AsARule();
            type(x, "if 1 then 0;");
            due("tell", x.tell(), 1);
            type(x, question);
            due("question", x.question(), 1);
            due("learn where all are in doubt", x.learn(5), AsARule.STATE);
            for (long doubt : seenDoubts(x)) {
                due("doubt", doubt, 9);
            }
        }
    }

    private static void badIsFirst() {
        for (int n : new int[] {MIN, -1, 0, 9, 10, MAX}) {
            refused("type " + n + " to 400", "c", " ".repeat(400), x -> x.type(-1L, n), AsARule.BAD);
        }
        for (int f : new int[] {MIN, -1, 0, 21, MAX}) {
            refused("learn " + f + " of 1", "1", "may", x -> x.learn(f), AsARule.BAD);
            refused("learn " + f + " of 0", "0", "may", x -> x.learn(f), AsARule.BAD);
        }
    }

    // ---- what else might leave a trace

    private static void readingChangesNothing() {
        AsARule quarrelling = rich("if a then c|e", "if c then");
        List<Long> first = seen(quarrelling);
        same("all that only answers", seen(quarrelling), first);
        due("no object has more than " + CALLS_MOST + " calls", calls <= CALLS_MOST ? 1 : 0, 1);
        calls = 0;
        AsARule calm = new AsARule();
        type(calm, "if a then b;if a&c then !b;may d;");
        due("tell", calm.tell(), 3);
        type(calm, "if a then b");
        due("question", calm.question(), 1);
        due("ever", calm.so(2), 1);
        due("no quarrel behind it", calm.count(4), 0);
        due("grade behind it", calm.grade(1), 1);
        first = seen(calm);
        same("all that only answers", seen(calm), first);
        due("no object has more than " + CALLS_MOST + " calls", calls + 5 <= CALLS_MOST ? 1 : 0, 1);
    }

    private static void faultLeavesNothingBehind() {
        String[] texts = {"always a;".repeat(4) + "?", "if a then b;".repeat(8) + "if", "fact 0;".repeat(4) + "may", "may 0;".repeat(6) + "b"};
        for (String text : texts) {
            AsARule x = new AsARule();
            type(x, text);
            due("tell " + text, x.tell() < 0 ? 1 : 0, 1);
            x.clear();
            type(x, "may c;");
            due("tell after " + text, x.tell(), 1);
            for (int sort = 0; sort < 4; sort++) {
                due("count " + sort + " after " + text, x.count(sort), sort == 3 ? 1 : 0);
            }
            due("there after " + text, x.there(0), -1L);
            due("ground after " + text, x.there(1), -1L);
            due("ends after " + text, x.ends(-1), 1);
            due("guess after " + text, x.worlds(4, 0), 0xF0F0F0F0F0F0F0F0L);
        }
        AsARule x = new AsARule();
        type(x, "if a then (b");
        due("question", x.question(), -22);
        x.clear();
        type(x, "c");
        due("question", x.question(), 1);
        due("WHEN is 1 then", x.worlds(5, 0), -1L);
    }
}
