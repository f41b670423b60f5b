/**
 * Each sentence of the document that names an edge of what is answered (grades, whether it is so, ends, whys, doubts, weights,
 * counts), in the document's order; says() quotes the sentence that is tested.
 */
public final class AnswerEdgesTest {
    private static final long A = letter(0), B = letter(1), C = letter(2), D = letter(3), E = letter(4), F = letter(5);
    private static final long ALL = -1L;
    private static final int MIN = Integer.MIN_VALUE, MAX = Integer.MAX_VALUE;
    /** Eight RULES, each of the next GRADE: RULE k is for c, d, e as a number of at least k, and tells a and !a in turn. */
    private static final String[] CHAIN = {"if 1 then a;", "if c|d|e then !a;", "if d|e then a;", "if c&d|e then !a;", "if e then a;",
        "if e&(c|d) then !a;", "if e&d then a;", "if e&d&c then !a;"};
    private static final String NOWHERE = "!a&!b&!c&!d&!e&!f";
    private static final String EVERYWHERE = "a&b&c&d&e&f";
    private static int wrong = 0;
    private static String sentence = "";

    public static void main(String[] args) {
        newObject();
        lastCall();
        thereOfAlways();
        worldsBreak();
        rulesBear();
        gradesOfRules();
        rulesQuarrel();
        gradesOfWorlds();
        worldNumbers();
        plainly();
        byCount();
        byCountNextLess();
        ever();
        everWithNine();
        alwaysSo();
        noWorldWithWhen();
        howNumbers();
        groundOfFacts();
        takenOn();
        someWorldLeft();
        wholeEnds();
        endsInOrder();
        noEnds();
        endNumbers();
        heldBy();
        whySomeLeft();
        whyInAll();
        whyNoneToSpare();
        whyInOrder();
        whyNumbers();
        doubtsAtFirst();
        learnFirmness();
        learnLess();
        learnNinetyNine();
        learnRefused();
        learnAnswer();
        believedBetween();
        believedEnds();
        forgets();
        weightOfSaying();
        weightOfRuled();
        weightOfGuessed();
        weightOfStrong();
        weightNumbers();
        traces();
        countNumbers();
        System.out.println(wrong == 0 ? "all edges of answers hold" : wrong + " edges of answers are wrong");
        if (wrong != 0) {
            System.exit(1);
        }
    }

    // ---- helpers

    private static void says(String quoted) {
        sentence = quoted;
    }

    private static void due(String what, long got, long want) {
        if (got != want) {
            wrong++;
            System.out.println("'" + sentence + "': " + what + " answered " + got + ", due is " + want);
        }
    }

    private static long letter(int i) {
        long worlds = 0;
        for (int w = 0; w < 64; w++) {
            if ((w >> i & 1) == 1) {
                worlds |= 1L << w;
            }
        }
        return worlds;
    }

    /** Eight bytes a call, so that no object sees more than its 512 calls. */
    private static void type(AsARule x, String text) {
        for (int i = 0; i < text.length(); i += 8) {
            int n = Math.min(8, text.length() - i);
            long v = 0;
            for (int k = 0; k < n; k++) {
                v = v << 8 | text.charAt(i + k);
            }
            x.type(v, n);
        }
    }

    private static void tell(AsARule x, String text) {
        type(x, text);
        if (x.tell() < 0) {
            due("could not be told " + text, 0, 1);
        }
    }

    private static AsARule told(String text) {
        AsARule x = new AsARule();
        tell(x, text);
        return x;
    }

    private static AsARule ask(AsARule x, String text) {
        type(x, text);
        if (x.question() != 1) {
            due("could not be asked " + text, 0, 1);
        }
        return x;
    }

    /** The QUESTION asked of an object that was told a text. */
    private static AsARule asked(String told, String question) {
        return ask(told(told), question);
    }

    private static String chain(int rules) {
        StringBuilder all = new StringBuilder();
        for (int k = 0; k < rules; k++) {
            all.append(CHAIN[k]);
        }
        return all.toString();
    }

    /** GRADE of a WORLD by the first RULES of the chain: RULE k is BROKEN, if c, d, e are at least k and a is not as it tells. */
    private static int chainGrade(int world, int rules) {
        int grade = 0;
        for (int k = 0; k < rules; k++) {
            boolean tellsA = k % 2 == 0;
            if ((world >> 2 & 7) >= k && (world & 1) == (tellsA ? 0 : 1)) {
                grade = k + 1;
            }
        }
        return grade;
    }

    private static void soAll(String told, String question, int plainly, int byCount, int ever, int always) {
        AsARule x = asked(told, question);
        int[] want = {plainly, byCount, ever, always};
        for (int how = 0; how < 4; how++) {
            due("so " + how + " of " + question + " after " + told, x.so(how), want[how]);
        }
    }

    private static void ends(String told, int... sets) {
        AsARule x = told(told);
        due("how many ENDS of " + told, x.ends(-1), sets.length);
        for (int k = 0; k < sets.length; k++) {
            due("END " + k + " of " + told, x.ends(k), sets[k]);
        }
        due("no more ENDS of " + told, x.ends(sets.length), AsARule.BAD);
        due("no more is left of " + told, x.leaves(sets.length), 0);
    }

    private static void whys(String told, String question, int... sets) {
        AsARule x = asked(told, question);
        due("how many WHYS of " + question + " after " + told, x.why(-1), sets.length);
        for (int k = 0; k < sets.length; k++) {
            due("WHY " + k + " of " + question + " after " + told, x.why(k), sets[k]);
        }
        due("no more WHYS of " + question + " after " + told, x.why(sets.length), AsARule.BAD);
    }

    private static void believed(String told, String question, int want) {
        due("believed " + question + " after " + told, asked(told, question).believed(), want);
    }

    // ---- 1

    private static void newObject() {
        says("AsARule(): As told. (At first all; the QUESTION is 1.)");
        AsARule x = new AsARule();
        for (int what = 0; what <= 5; what++) {
            due("count " + what, x.count(what), 0);
        }
        due("count 6", x.count(6), 64);
        for (int what = 0; what < 3; what++) {
            due("there " + what, x.there(what), ALL);
        }
        for (int w = 0; w < 64; w++) {
            due("gradeOf " + w, x.gradeOf(w), 0);
            due("doubt " + w, x.doubt(w), 0);
            due("breaks " + w, x.breaks(w), 0);
        }
        due("WHEN", x.worlds(5, 0), ALL);
        due("THEN", x.worlds(5, 1), ALL);
        for (int how = 0; how < 4; how++) {
            due("so " + how, x.so(how), 1);
        }
        due("best 0", x.best(0), ALL);
        due("best 1", x.best(1), ALL);
        due("grade", x.grade(0), AsARule.BAD);
        due("ends", x.ends(-1), 1);
        due("END 0", x.ends(0), 0);
        due("leaves", x.leaves(0), ALL);
        due("held", x.held(), 1);
        due("whys", x.why(-1), 1);
        due("WHY 0", x.why(0), 0);
        due("believed", x.believed(), 99);
        due("learn", x.learn(1), AsARule.STATE);
        due("weight", x.weight(0, 0), AsARule.NO);
        due("trace", x.trace(), 0);
        due("clear", x.clear(), 0);
        due("forget", x.forget(), 64);
    }

    private static void lastCall() {
        says("An object is used for at most 512 calls after it has been made");
        AsARule x = new AsARule();
        x.type(0x6966206120746865L, 8);
        x.type(0x6E20623BL, 4);
        due("the third call", x.tell(), 1);
        for (int call = 4; call <= 511; call++) {
            due("call " + call, x.weight(3, 0), 48);
        }
        due("call 512", x.trace(), 508 * 1011);
    }

    private static void thereOfAlways() {
        says("THERE: WORLDS in which all that is always so is. (At first all)");
        String[] texts = {"", "always 1;", "always a;", "always a;always b;always c;always d&e&f;", "always " + NOWHERE + ";",
            "always 0;", "always a;always !a;", "fact 0;", "if 1 then 0;", "may 0;"};
        long[] there = {ALL, ALL, A, 1L << 63, 1, 0, 0, ALL, ALL, ALL};
        for (int t = 0; t < texts.length; t++) {
            AsARule x = told(texts[t]);
            due("there 0 of " + texts[t], x.there(0), there[t]);
            due("count 6 of " + texts[t], x.count(6), Long.bitCount(there[t]));
        }
    }

    // ---- 2

    private static void worldsBreak() {
        says("A WORLD BREAKS a RULE, if WHEN is so and THEN not.");
        AsARule x = told("if a then b;");
        for (int w = 0; w < 64; w++) {
            due("breaks " + w, x.breaks(w), (w & 3) == 1 ? 1 : 0);
        }
        x = told("if 1 then 0;".repeat(8));
        due("all eight", x.breaks(0), 255);
        due("all eight", x.breaks(63), 255);
        due("the eighth alone", told("if 0 then 0;".repeat(7) + "if 1 then 0;").breaks(63), 128);
        due("WHEN is never so", told("if 0 then 0;").breaks(0), 0);
        due("THEN is always so", told("if 1 then 1;").breaks(0), 0);
        due("no RULES", told("always 0;fact 0;").breaks(0), 0);
    }

    private static void rulesBear() {
        says("Some RULES BEAR one of them, if there is a WORLD THERE in which its WHEN and THEN are so, that BREAKS none of them.");
        due("the last WORLD alone", told("if a then b;always " + EVERYWHERE + ";").grade(0), 0);
        due("the first WORLD alone", told("if !a then !b;always " + NOWHERE + ";").grade(0), 0);
        due("one WORLD of all", told("if " + EVERYWHERE + " then 1;").grade(0), 0);
        due("that WORLD is not THERE", told("if " + EVERYWHERE + " then 1;always !(" + EVERYWHERE + ");").grade(0), AsARule.NONE);
        due("WHEN and THEN are not so together", told("if a then b;always !(a&b);").grade(0), AsARule.NONE);
        due("WHEN is never so", told("if 0 then 1;").grade(0), AsARule.NONE);
        due("THEN is never so", told("if 1 then 0;").grade(0), AsARule.NONE);
        due("both are always so", told("if 1 then 1;").grade(0), 0);
        due("no WORLD is THERE", told("if 1 then 1;always 0;").grade(0), AsARule.NONE);
        due("what facts leave does not matter", told("if a then b;fact !a;").grade(0), 0);
        AsARule x = told("if a then b;if b then !a;");
        due("a WORLD that bears it BREAKS another", x.grade(0), 1);
        due("a WORLD that bears it BREAKS none", x.grade(1), 0);
    }

    private static void gradesOfRules() {
        says("all RULES that all RULES BEAR have GRADE 0; of those that are left likewise those that these BEAR GRADE 1, and so on");
        AsARule x = told(chain(8));
        for (int r = 0; r < 8; r++) {
            due("grade " + r, x.grade(r), r);
        }
        due("they do not QUARREL", x.count(4), 0);
        StringBuilder turned = new StringBuilder();
        for (int r = 7; r >= 0; r--) {
            turned.append(CHAIN[r]);
        }
        x = told(turned.toString());
        for (int r = 0; r < 8; r++) {
            due("turned grade " + r, x.grade(r), 7 - r);
        }
        x = told("if a then b;".repeat(8));
        for (int r = 0; r < 8; r++) {
            due("all alike, grade " + r, x.grade(r), 0);
        }
        for (int r : new int[] {MIN, -1, 8, 9, 32, 256, MAX}) {
            due("grade " + r, x.grade(r), AsARule.BAD);
        }
        due("a RULE behind the last", told("if a then b;").grade(1), AsARule.BAD);
        due("no RULES", told("may a;fact b;always c;").grade(0), AsARule.BAD);
    }

    private static void rulesQuarrel() {
        says("where some are left that none of them is BORNE they have none, and RULES QUARREL");
        AsARule x = told(chain(7) + "if 0 then 1;");
        for (int r = 0; r < 7; r++) {
            due("grade " + r, x.grade(r), r);
        }
        due("the last has none", x.grade(7), AsARule.NONE);
        due("they QUARREL", x.count(4), 1);
        tell(x, chain(7));
        due("told anew they do not", x.count(4), 0);
        tell(x, "if a then b;if a then !b;if c then d;");
        due("grade 0", x.grade(0), AsARule.NONE);
        due("grade 1", x.grade(1), AsARule.NONE);
        due("grade 2", x.grade(2), 0);
        due("they QUARREL", x.count(4), 1);
        x = told("if 1 then 0;".repeat(8));
        for (int r = 0; r < 8; r++) {
            due("none BORNE, grade " + r, x.grade(r), AsARule.NONE);
        }
        due("all QUARREL", x.count(4), 1);
        due("no RULES, no quarrel", told("").count(4), 0);
        due("no WORLD THERE, but no RULES", told("always 0;").count(4), 0);
        due("no WORLD THERE, and a RULE", told("always 0;if 1 then 1;").count(4), 1);
        due("one RULE by itself", told("if a then !a;").count(4), 1);
        due("empty GROUND is no quarrel", told("fact 0;if a then b;").count(4), 0);
    }

    private static void gradesOfWorlds() {
        says("GRADE of a WORLD: 0, if it BREAKS none; else 1 more than the greatest GRADE of RULES that it BREAKS"
            + " (those without one count as 8); NONE, if it is not THERE.");
        AsARule x = told(chain(8));
        AsARule y = told(chain(7) + "if b then 0;");
        AsARule z = told("always a;" + chain(8));
        for (int w = 0; w < 64; w++) {
            due("gradeOf " + w + " by grades", x.gradeOf(w), chainGrade(w, 8));
            due("gradeOf " + w + " with one that has none", y.gradeOf(w), (w & 2) != 0 ? 9 : chainGrade(w, 7));
            due("gradeOf " + w + " where a is always so", z.gradeOf(w), (w & 1) == 0 ? AsARule.NONE : (w >> 2 & 7) == 0 ? 0 : 9);
            due("gradeOf " + w + " where none is THERE", told("always 0;").gradeOf(w), AsARule.NONE);
            due("gradeOf " + w + " without RULES", told("always 1;").gradeOf(w), 0);
        }
        due("the greatest of GRADES", x.gradeOf(1 + 4 + 8 + 16), 8);
        due("THERE 2 of none", told("if 1 then 0;").there(2), 0);
        due("THERE 2 of no WORLD", told("always 0;").there(2), 0);
        due("THERE 2 of some", told("always b;if a then 0;").there(2), ~A & B);
    }

    private static void worldNumbers() {
        says("WORLDS 0 .. 63 (gradeOf, breaks, doubt: BAD)");
        AsARule x = told("if 1 then 0;");
        for (int w : new int[] {0, 1, 31, 32, 62, 63}) {
            due("gradeOf " + w, x.gradeOf(w), 9);
            due("breaks " + w, x.breaks(w), 1);
            due("doubt " + w, x.doubt(w), 9);
        }
        for (int w : new int[] {MIN, MIN + 1, -64, -9, -1, 64, 65, 128, 256, MAX}) {
            due("gradeOf " + w, x.gradeOf(w), AsARule.BAD);
            due("breaks " + w, x.breaks(w), AsARule.BAD);
            due("doubt " + w, x.doubt(w), AsARule.BAD);
        }
        says("THERE (what = 0), GROUND (1), WORLDS of GRADE 0 (2). BAD: 0.");
        AsARule y = new AsARule();
        for (int what : new int[] {MIN, -1, 3, 4, 64, 256, MAX}) {
            due("there " + what, y.there(what), 0);
        }
    }

    private static void plainly() {
        says("PLAINLY (0), if THEN is so in all WORLDS with WHEN that are of the least GRADE of these");
        due("one WORLD of all is not", asked("", "a|b|c|d|e|f").so(0), 0);
        due("the last WORLD is not", asked("", "!(" + EVERYWHERE + ")").so(0), 0);
        due("that WORLD is not THERE", asked("always a|b|c|d|e|f;", "a|b|c|d|e|f").so(0), 1);
        due("THEN is never so", asked("", "0").so(0), 0);
        AsARule x = asked(chain(8), "if c&d&e then !a");
        due("the least are of GRADE 7", x.so(0), 1);
        due("these", x.best(0), C & D & E & ~A);
        ask(x, "if c&d&e then !a&b");
        due("not all of these", x.so(0), 0);
        ask(x, "if c&d&e&a then a");
        due("the least are of GRADE 8", x.so(0), 1);
        due("these", x.best(0), C & D & E & A);
        x = asked("if a then 0;", "if a then a");
        due("the least BREAK one without a GRADE", x.so(0), 1);
        due("these", x.best(0), A);
        ask(x, "if a then b");
        due("not all of these", x.so(0), 0);
        ask(x, "!a");
        due("the least BREAK none", x.so(0), 1);
    }

    private static void byCount() {
        says("BY COUNT (1): likewise of the least by how many RULES of the greatest GRADE it BREAKS (those without one first of all)");
        AsARule x = asked("if a then b;".repeat(7) + "if a&c then !b;", "if a&c then !b");
        due("seven of GRADE 0 are less than one of GRADE 1", x.so(1), 1);
        due("these", x.best(1), A & C & ~B);
        x = asked("if c then 0;" + "if a then b;".repeat(7), "if a&(c&b|!c&!b) then !c");
        due("seven of GRADE 0 are less than one without", x.so(1), 1);
        due("these", x.best(1), A & ~B & ~C);
        x = asked("if c then 0;if c then 0;if d then 0;" + "if a then b;".repeat(5), "if c&!d|d&!c&a&!b then d");
        due("one without a GRADE and five others are less than two", x.so(1), 1);
        due("these", x.best(1), A & ~B & D & ~C);
        x = asked("if 1 then a;".repeat(4) + "if 1 then b;".repeat(4), "if !(a&b) then 0");
        due("four and four", x.best(1), A & ~B | ~A & B);
        due("plainly eight are as good as four", x.best(0), ~(A & B));
        x = asked("if 1 then 0;".repeat(8), "if e then e");
        due("all BREAK all", x.best(1), E);
        due("all BREAK all", x.so(1), 1);
    }

    private static void byCountNextLess() {
        says("BY COUNT: .. then of the next less, and so on");
        AsARule x = asked("if a then b;if a&c then !b;if a&c&d then b;if 1 then f;if a&c then e;", "if a&c&d then b&e&f");
        int[] grades = {0, 1, 2, 0, 1};
        for (int r = 0; r < 5; r++) {
            due("grade " + r, x.grade(r), grades[r]);
        }
        due("so", x.so(1), 1);
        due("by the greatest, the next, and the last", x.best(1), A & B & C & D & E & F);
        due("by the greatest alone", x.best(0), A & B & C & D);
        due("plainly", x.so(0), 0);
        ask(x, "if a&c&d&!e then f");
        due("the last decides", x.best(1), A & B & C & D & ~E & F);
    }

    private static void ever() {
        says("EVER (2): if RULES and one more, if WHEN then not THEN, QUARREL (or RULES do by themselves)");
        due("if 1 then not 1", asked("", "1").so(2), 1);
        due("if 1 then not 0", asked("", "0").so(2), 0);
        due("if 1 then not a", asked("", "a").so(2), 0);
        due("the RULE itself", asked("if a then b;", "if a then b").so(2), 1);
        due("its contrary", asked("if a then b;", "if a then !b").so(2), 0);
        due("of a LETTER more", asked("if a then b;", "if a&c then b").so(2), 0);
        due("RULES QUARREL by themselves", asked("if a then 0;", "b").so(2), 1);
        due("RULES QUARREL by themselves", asked("if a then b;if a then !b;", "if c then 0").so(2), 1);
        due("RULES do not QUARREL behind it", asked("if a then b;", "if a then b").count(4), 0);
        due("RULES that QUARREL still do", asked("if a then 0;", "0").count(4), 1);
    }

    private static void everWithNine() {
        says("EVER: RULES and one more (eight and one)");
        AsARule x = asked(chain(8), "if c&d&e then !a");
        due("against the eighth", x.so(2), 1);
        ask(x, "if c&d&e&f then !a");
        due("a ninth GRADE is no quarrel", x.so(2), 0);
        ask(x, "if c&d&e&f then a");
        due("as the eighth", x.so(2), 0);
        ask(x, "if c&d&e&f then 1");
        due("never BORNE", x.so(2), 1);
        for (int r = 0; r < 8; r++) {
            due("grade " + r + " as before", x.grade(r), r);
        }
        due("eight RULES as before", x.count(1), 8);
        due("no ninth", x.grade(8), AsARule.BAD);
        due("no ninth", x.worlds(1, 8), 0);
    }

    private static void alwaysSo() {
        says("ALWAYS (3): THEN is so in all WORLDS THERE with WHEN");
        due("all", asked("", "a|!a").so(3), 1);
        due("all but the first", asked("", "a|b|c|d|e|f").so(3), 0);
        due("all but the last", asked("", "!(" + EVERYWHERE + ")").so(3), 0);
        due("all THERE", asked("always a|b|c|d|e|f;", "a|b|c|d|e|f").so(3), 1);
        due("all with WHEN", asked("", "if a&b then a").so(3), 1);
        due("one with WHEN", asked("", "if " + EVERYWHERE + " then f").so(3), 1);
        due("facts do not matter", asked("fact a;", "a").so(3), 0);
        due("RULES do not matter", asked("if 1 then a;", "a").so(3), 0);
    }

    private static void noWorldWithWhen() {
        says("(Each is so, if there is no WORLD THERE with WHEN.)");
        soAll("", "if 0 then 0", 1, 1, 1, 1);
        soAll("if a then b;", "if c&!c then d", 1, 1, 1, 1);
        soAll("always !a;", "if a then 0", 1, 1, 1, 1);
        soAll("always !(" + EVERYWHERE + ");", "if " + EVERYWHERE + " then 0", 1, 1, 1, 1);
        soAll("", "if " + EVERYWHERE + " then 0", 0, 0, 0, 0);
        soAll("always 0;", "0", 1, 1, 1, 1);
        soAll("always 0;if a then b;", "if a then !b", 1, 1, 1, 1);
        soAll("fact 0;", "0", 0, 0, 0, 0);
        due("no WORLDS", asked("always !a;", "if a then 0").best(0), 0);
        due("no WORLDS", asked("always !a;", "if a then 0").best(1), 0);
        due("no WORLDS", asked("always 0;", "1").best(0), 0);
        due("no WORLDS", asked("always 0;", "1").best(1), 0);
    }

    private static void howNumbers() {
        says("Whether the QUESTION is so (how = 0 .. 3). BAD. .. of the least GRADE (how = 0), the least BY COUNT (1). BAD: 0.");
        AsARule x = new AsARule();
        for (int how : new int[] {MIN, -2, -1, 4, 5, 256, MAX}) {
            due("so " + how, x.so(how), AsARule.BAD);
            due("best " + how, x.best(how), 0);
        }
        due("best 2", x.best(2), 0);
        due("best 3", x.best(3), 0);
    }

    // ---- 3

    private static void groundOfFacts() {
        says("GROUND: WORLDS THERE in which all facts are so.");
        String[] texts = {"", "fact 1;", "fact a;fact b;fact c;fact d&e&f;", "fact " + NOWHERE + ";", "fact 0;", "fact a;fact !a;",
            "always a;fact !a;", "always 0;", "always a;fact b;", "may 0;if 1 then 0;"};
        long[] ground = {ALL, ALL, 1L << 63, 1, 0, 0, 0, 0, A & B, ALL};
        for (int t = 0; t < texts.length; t++) {
            due("there 1 of " + texts[t], told(texts[t]).there(1), ground[t]);
        }
    }

    private static void takenOn() {
        says("sets of RULES, each taken on when its WHEN is so in all WORLDS that are left (from GROUND on, less by each THEN)");
        ends("", 0);
        ends("if a then b;", 0);
        ends("fact a;if a then b;", 1);
        ends("always a;if a then b;", 1);
        ends("fact a|b;if a then c;", 0);
        ends("fact a|b;if a|b then c;", 1);
        ends("fact a|b;if 1 then !b;if a then c;", 3);
        ends("if b then c;if a then b;fact a;", 3);
        ends("if a then a;", 0);
        ends("if a then b;if b then a;", 0);
        ends("if a&b&c&d&e then f;if a&b&c&d then e;if a&b&c then d;if a&b then c;if a then b;if 1 then a;", 63);
        String backwards = "if e then f;if d then e;if c then d;if b then c;if a&(b|c) then b;if a then b|c;if a|b then a;if 1 then a|b;";
        ends(backwards, 255);
        due("each of eight lets in the one before it", told(backwards).leaves(0), 1L << 63);
        due("GROUND is left", told("fact a;if b then c;").leaves(0), A);
        due("less by each THEN", told("fact a|b;if 1 then !b;if a then c;").leaves(0), A & ~B & C);
    }

    private static void someWorldLeft() {
        says("such that at last some WORLD is left");
        ends("if 1 then 0;", 0);
        ends("if 1 then a;if 1 then !a;", 1, 2);
        ends("fact a;if a then !a;", 0);
        ends("if 1 then a|b;if 1 then !a;if 1 then !b;", 3, 5, 6);
        due("the last WORLD alone", told("fact a&b&c&d&e;if 1 then f;").leaves(0), 1L << 63);
        due("the first WORLD alone", told("fact !(a|b|c|d|e);if 1 then !f;").leaves(0), 1);
        ends("fact " + EVERYWHERE + ";if 1 then !f;if f then 1;", 2);
    }

    private static void wholeEnds() {
        says("each RULE that is not taken on has a WHEN that is not so in all these, or a THEN that is so in none");
        ends("if 1 then 1;", 1);
        ends("if 1 then 1;".repeat(8), 255);
        ends("fact a;if a then b;if b then !a;", 1);
        ends("fact a;if a then b;if b then !b;", 1);
        ends("fact a;if a then b&c&d&e&f;", 1);
        ends("if 1 then a|b;if a|b then !a;if a|b then !b;", 3, 5);
        ends("if 0 then 1;", 0);
        ends("if 1 then a;if a then b;if a then !b;if b then c;if !b then d;", 1 + 2 + 8, 1 + 4 + 16);
    }

    private static void endsInOrder() {
        says("ENDS: In order of numbers (bits).");
        String[] letters = {"a", "b", "c", "d"};
        StringBuilder text = new StringBuilder();
        for (String sign : new String[] {"", "!"}) {
            for (String letter : letters) {
                text.append("if 1 then ").append(sign).append(letter).append(";");
            }
        }
        int[] sets = new int[16];
        for (int k = 0; k < 16; k++) {
            sets[k] = 15 - k | k << 4;
        }
        ends(text.toString(), sets);
        AsARule x = told(text.toString());
        for (int k = 0; k < 16; k++) {
            long left = ALL;
            long[] worlds = {A, B, C, D};
            for (int i = 0; i < 4; i++) {
                left &= (k >> i & 1) == 1 ? ~worlds[i] : worlds[i];
            }
            due("leaves " + k, x.leaves(k), left);
        }
        ends("if 1 then !a;if 0 then 1;if 0 then 1;if 0 then 1;if 0 then 1;if 0 then 1;if 0 then 1;if 1 then a;", 1, 128);
    }

    private static void noEnds() {
        says("(No ENDS, if GROUND is empty.)");
        for (String text : new String[] {"fact 0;", "fact a;fact !a;", "always a;fact !a;", "always 0;", "fact 0;if 1 then 1;",
            "always 0;if 0 then 1;if a then b;"}) {
            ends(text);
            AsARule x = told(text);
            due("held after " + text, x.held(), 0);
            due("leaves after " + text, x.leaves(0), 0);
        }
        AsARule x = told("fact 0;if 1 then 1;");
        tell(x, "if 1 then 1;");
        due("told anew there is one", x.ends(-1), 1);
        due("told anew there is one", x.ends(0), 1);
    }

    private static void endNumbers() {
        says("ENDS: how many (k = -1), the k-th set. BAD. .. WORLDS that the k-th END leaves. BAD: 0.");
        AsARule x = told("if 1 then a;if 1 then !a;");
        due("how many", x.ends(-1), 2);
        due("leaves -1", x.leaves(-1), 0);
        due("leaves 0", x.leaves(0), A);
        due("leaves 1", x.leaves(1), ~A);
        for (int k : new int[] {MIN, MIN + 1, -256, -2, 2, 3, 255, 256, 257, MAX}) {
            due("ends " + k, x.ends(k), AsARule.BAD);
            due("leaves " + k, x.leaves(k), 0);
        }
    }

    private static void heldBy() {
        says("The QUESTION's THEN is HELD by an END, if it is so in all WORLDS that it leaves.");
        String text = "if 1 then a;if 1 then !a;if a then b;fact c;";
        String[] questions = {"1", "0", "c", "a", "!a", "b", "!a|b", "d", "if 0 then a", "if 0 then 0", "a&b&c", "c&!a"};
        int[] want = {2, 0, 2, 1, 1, 1, 2, 0, 1, 0, 1, 1};
        for (int q = 0; q < questions.length; q++) {
            due("held " + questions[q], asked(text, questions[q]).held(), want[q]);
        }
        due("all but one WORLD", asked("", "a|b|c|d|e|f").held(), 0);
        due("the last WORLD alone", asked("fact " + EVERYWHERE + ";", "f").held(), 1);
    }

    private static void whySomeLeft() {
        says("WHY: sets of GUESSES by which some WORLD of GROUND is left (all of them being so)");
        whys("", "1", 0);
        whys("", "a");
        whys("may 0;", "a");
        whys("may a;may !a;", "b");
        whys("may a;may !a;", "0");
        whys("fact a;may !a;may b;", "b", 2);
        whys("always a;may !a;may b;", "b", 2);
        whys("may a&b&c&d&e&f;", "f", 1);
        whys("may " + NOWHERE + ";", "!f", 1);
        whys("fact 0;may 1;", "1");
        whys("always 0;may 1;", "1");
        whys("may a|b;may !a;may !b;", "b", 3);
    }

    private static void whyInAll() {
        says("WHY: and the QUESTION's THEN is so in all these");
        whys("may a;", "a", 1);
        whys("may a;", "a&b");
        whys("may a|b;", "a");
        whys("may a;", "0");
        whys("may a;", "if 0 then a", 1);
        whys("may a;", "if a then 1", 0);
        whys("may a;always !a|b;", "b", 1);
        whys("may a;fact !a|b;", "b", 1);
        whys("may a;if a then b;", "b");
        whys("may b&c&d&e&f;", "a|b", 1);
    }

    private static void whyNoneToSpare() {
        says("WHY: none of them to spare");
        whys("may a;may a;", "a", 1, 2);
        whys("may 1;may a;", "a", 2);
        whys("fact a;may a;", "a", 0);
        whys("may a;may b;may c;", "1", 0);
        whys("may a;may b;may a&b;", "a&b", 4, 3);
        whys("may a;".repeat(6), "a", 1, 2, 4, 8, 16, 32);
        whys("may a;may b;may c;may d;may e;may f;", EVERYWHERE, 63);
        whys("may a;may b;may c;may d;may e;may f;", "a&b&c&d&e", 31);
    }

    private static void whyInOrder() {
        says("WHY: in order by how many they are, then as numbers");
        String six = "may a;may b;may c;may d;may e;may f;";
        whys(six, "f|a&b", 32, 3);
        whys(six, "a&b&c|d&e|f", 32, 24, 7);
        whys(six, "a&b|b&c|d|e&f", 8, 3, 6, 48);
        StringBuilder three = new StringBuilder("0");
        int[] sets = new int[20];
        int found = 0;
        for (int set = 0; set < 64; set++) {
            if (Integer.bitCount(set) == 3) {
                sets[found] = set;
                found++;
                three.append("|1");
                for (int i = 0; i < 6; i++) {
                    if ((set >> i & 1) == 1) {
                        three.append("&").append((char) ('a' + i));
                    }
                }
            }
        }
        whys(six, three.toString(), sets);
    }

    private static void whyNumbers() {
        says("WHY: how many sets (k = -1), the k-th. BAD.");
        AsARule x = asked("may a;may b;", "a|b");
        due("how many", x.why(-1), 2);
        due("the last", x.why(1), 2);
        for (int k : new int[] {MIN, MIN + 1, -64, -2, 2, 3, 63, 64, 65, MAX}) {
            due("why " + k, x.why(k), AsARule.BAD);
        }
        due("none at all", asked("may a;", "0").why(0), AsARule.BAD);
    }

    // ---- 4

    private static void doubtsAtFirst() {
        says("DOUBT of each WORLD: 0 .. 99, or NONE (not THERE); at first, and when a TEXT was read, its GRADE.");
        AsARule x = told("always b;" + chain(7) + "if f then 0;");
        for (int w = 0; w < 64; w++) {
            due("doubt " + w, x.doubt(w), (w & 2) == 0 ? AsARule.NONE : (w & 32) != 0 ? 9 : chainGrade(w, 7));
        }
        x = asked("always b;", "a");
        x.learn(20);
        due("learnt", x.doubt(2), 20);
        due("not THERE", x.doubt(0), AsARule.NONE);
        ask(x, "c");
        due("a QUESTION leaves it", x.doubt(2), 20);
        type(x, "always c");
        due("a FAULT", x.tell(), -18);
        due("leaves it", x.doubt(2), 20);
        x.clear();
        due("an empty text", x.tell(), 0);
        due("is read, too", x.doubt(2), 0);
        due("THERE again", x.doubt(0), 0);
        tell(x, "always 0;");
        due("none is THERE", x.doubt(0), AsARule.NONE);
        due("none is THERE", x.doubt(63), AsARule.NONE);
    }

    private static void learnFirmness() {
        says("LEARNT: .. with FIRMNESS f (1 .. 20) .. BAD");
        for (int f = 1; f <= 20; f++) {
            AsARule x = asked("", "a");
            due("learn " + f, x.learn(f), 32);
            due("so", x.doubt(63), 0);
            due("not so", x.doubt(62), f);
        }
        AsARule x = asked("", "a");
        for (int f : new int[] {MIN, -20, -1, 0, 21, 22, 99, 256 + 1, MAX}) {
            due("learn " + f, x.learn(f), AsARule.BAD);
            due("so", x.doubt(63), 0);
            due("not so", x.doubt(62), 0);
        }
    }

    private static void learnLess() {
        says("WORLDS in which it is so have their DOUBT less the least of these, others less the least of theirs, and f");
        AsARule x = asked(chain(8), "c&d&e");
        due("learnt", x.learn(20), 4);
        for (int w = 0; w < 64; w++) {
            boolean so = (w >> 2 & 7) == 7;
            due("doubt " + w, x.doubt(w), so ? chainGrade(w, 8) - 7 : chainGrade(w, 8) + 20);
        }
        ask(x, "if 0 then !(c&d&e)");
        due("learnt otherwise", x.learn(1), 4);
        for (int w = 0; w < 64; w++) {
            boolean so = (w >> 2 & 7) == 7;
            due("doubt " + w, x.doubt(w), so ? chainGrade(w, 8) - 7 + 1 : chainGrade(w, 8));
        }
        x = asked("if 1 then 0;", "a");
        due("all are of GRADE 9", x.learn(3), 32);
        due("9 less 9", x.doubt(1), 0);
        due("9 less 9, and 3", x.doubt(0), 3);
        due("again", x.learn(3), 32);
        due("3 less 3, and 3", x.doubt(0), 3);
    }

    /** 20 for each of a .. d, and for e as told: DOUBT of WORLD 0. */
    private static AsARule far(int lastFirmness) {
        AsARule x = new AsARule();
        for (String letter : new String[] {"a", "b", "c", "d"}) {
            ask(x, letter);
            x.learn(20);
        }
        ask(x, "e");
        x.learn(lastFirmness);
        return x;
    }

    private static void learnNinetyNine() {
        says("LEARNT: and f (99 at most)");
        due("98", far(18).doubt(0), 98);
        due("99", far(19).doubt(0), 99);
        due("100 is too much", far(20).doubt(0), 99);
        AsARule x = far(20);
        due("80 is not", x.doubt(1), 80);
        ask(x, "f");
        due("one WORLD is left", x.learn(20), 1);
        due("120 is too much", x.doubt(0), 99);
        due("100 is too much", x.doubt(1), 99);
        due("80", x.doubt(3), 80);
        due("20", x.doubt(31), 20);
        ask(x, "!(b|c|d|e|f)");
        due("two that had 99 are alike then", x.learn(20), 2);
        due("99 less 99", x.doubt(0), 0);
        due("99 less 99", x.doubt(1), 0);
        due("0 less 0, and 20", x.doubt(63), 20);
        due("80 less 0, and 20 is too much", x.doubt(3), 99);
        due("60 less 0, and 20", x.doubt(7), 80);
    }

    private static void learnRefused() {
        says("(Refused, if it is so in no WORLD THERE, or in all.) .. STATE");
        String[][] refused = {{"", "1"}, {"", "0"}, {"always a;", "a"}, {"always a;", "!a"}, {"always 0;", "a"}, {"always 0;", "1"},
            {"always " + EVERYWHERE + ";", "a"}, {"always " + NOWHERE + ";", "a"}, {"always a|b|c|d|e|f;", NOWHERE}};
        for (String[] texts : refused) {
            AsARule x = asked(texts[0], texts[1]);
            due("learn " + texts[1] + " after " + texts[0], x.learn(1), AsARule.STATE);
            due("learn " + texts[1] + " after " + texts[0], x.learn(20), AsARule.STATE);
            due("BAD is first", x.learn(0), AsARule.BAD);
            due("BAD is first", x.learn(21), AsARule.BAD);
        }
        due("in all but one", asked("", "a|b|c|d|e|f").learn(1), 63);
        due("in all but the last", asked("", "!(" + EVERYWHERE + ")").learn(1), 63);
        due("in one", asked("", EVERYWHERE).learn(1), 1);
        due("facts do not matter", asked("fact a;", "a").learn(1), 32);
        due("an empty GROUND does not matter", asked("fact 0;", "a").learn(1), 32);
        due("WHEN does not matter", asked("", "if 0 then a").learn(1), 32);
        due("two are THERE", asked("always a&b&c&d&e;", "f").learn(1), 1);
    }

    private static void learnAnswer() {
        says("how many WORLDS have DOUBT 0 then");
        due("one", asked("", NOWHERE).learn(20), 1);
        due("half", asked("", "f").learn(20), 32);
        due("not those that are not THERE", asked("always a;", "b").learn(5), 16);
        due("not those above the least", asked("if a then b;", "a").learn(5), 16);
        due("where all had been of GRADE 9", asked("if 1 then 0;", "a").learn(5), 32);
    }

    private static void believedBetween() {
        says("BELIEVED: how much the least DOUBT of WORLDS in which the QUESTION's THEN is not so is above the least of those in which it is");
        believed("", "a", 0);
        believed("if 1 then a;", "a", 1);
        believed("if 1 then a;", "!a", -1);
        believed(chain(8), "!(c&d&e)", 7);
        believed(chain(8), "c&d&e", -7);
        believed("if a then 0;", "!a", 9);
        believed("if a then 0;", "a", -9);
        believed("if a then 0;", "if a then !a", 9);
        AsARule x = asked("", "a");
        x.learn(20);
        due("learnt", x.believed(), 20);
        ask(x, "!a");
        due("its contrary", x.believed(), -20);
        x.learn(1);
        due("learnt then", x.believed(), 1);
    }

    private static void believedEnds() {
        says("(99, if there is none of the first, -99, if none of the second)");
        believed("", "1", 99);
        believed("", "0", -99);
        believed("always a;", "a", 99);
        believed("always a;", "!a", -99);
        believed("always " + EVERYWHERE + ";", "f", 99);
        believed("always " + EVERYWHERE + ";", "!f", -99);
        believed("if 1 then 0;", "1", 99);
        believed("if 1 then 0;", "0", -99);
        believed("always 0;", "1", 99);
        believed("always 0;", "0", 99);
        AsARule x = far(20);
        ask(x, "a|b|c|d|e");
        due("99 above 0", x.believed(), 99);
        ask(x, "!(a|b|c|d|e)");
        due("0 above 99", x.believed(), -99);
        x = far(18);
        ask(x, "a|b|c|d|e");
        due("98 above 0", x.believed(), 98);
        ask(x, "!(a|b|c|d|e)");
        due("0 above 98", x.believed(), -98);
    }

    private static void forgets() {
        says("DOUBTS are GRADES again: how many WORLDS have DOUBT 0.");
        due("all", new AsARule().forget(), 64);
        due("none THERE", told("always 0;").forget(), 0);
        due("all BREAK one", told("if 1 then 0;").forget(), 0);
        due("one", told("if a|b|c|d|e|f then 0;").forget(), 1);
        AsARule x = far(20);
        due("learnt away", x.forget(), 64);
        for (int w = 0; w < 64; w++) {
            due("doubt " + w, x.doubt(w), 0);
        }
        due("nothing to forget", x.forget(), 64);
        x = asked("always b;" + chain(7) + "if f then 0;", "e");
        x.learn(20);
        due("forget", x.forget(), Long.bitCount(x.there(2)));
        for (int w = 0; w < 64; w++) {
            due("doubt " + w, x.doubt(w), (w & 2) == 0 ? AsARule.NONE : (w & 32) != 0 ? 9 : chainGrade(w, 7));
        }
    }

    // ---- kinds, counts

    private static void weightOfSaying() {
        says("SAYING WORLDS THERE in which its WHEN is so");
        due("none", told("if 0 then 1;").weight(0, 0), 0);
        due("all", told("if 1 then 0;").weight(0, 0), 64);
        due("one", told("if " + EVERYWHERE + " then 0;").weight(0, 0), 1);
        due("none THERE", told("if 1 then 1;always 0;").weight(0, 0), 0);
        due("half THERE", told("if 1 then 1;always a;").weight(0, 0), 32);
        due("facts do not matter", told("if 1 then 1;fact 0;").weight(0, 0), 64);
        due("the eighth", told("if 0 then 1;".repeat(7) + "if a then b;").weight(0, 7), 32);
    }

    private static void weightOfRuled() {
        says("RULED up, and its GRADE (8 for none)");
        AsARule x = told(chain(8));
        for (int r = 0; r < 8; r++) {
            due("RULED " + r, x.weight(1, r), 8 * (8 - r) + r);
        }
        due("none", told("if 1 then 0;").weight(1, 0), 72);
        due("none, and WHEN is never so", told("if 0 then 1;").weight(1, 0), 8);
        due("none THERE", told("if 1 then 1;always 0;").weight(1, 0), 8);
    }

    private static void weightOfGuessed() {
        says("GUESSED half of up, rounded down");
        due("of 0", told("if 0 then 1;").weight(2, 0), 0);
        due("of 1", told("if " + EVERYWHERE + " then 1;").weight(2, 0), 0);
        due("of 2", told("if a&b&c&d&e then 1;").weight(2, 0), 1);
        due("of 3", told("always a&b&c&d;if e|f then 1;").weight(2, 0), 1);
        due("of 63", told("if a|b|c|d|e|f then 1;").weight(2, 0), 31);
        due("of 64", told("if 1 then 0;").weight(2, 0), 32);
    }

    private static void weightOfStrong() {
        says("STRONG twice up, less WORLDS THERE that BREAK it");
        AsARule x = told(chain(8));
        for (int r = 0; r < 8; r++) {
            due("STRONG " + r, x.weight(3, r), 2 * (8 * (8 - r) + r) - 4 * (8 - r));
        }
        due("none BREAKS it", told("if 1 then 1;").weight(3, 0), 128);
        due("all BREAK it", told("if 1 then 0;").weight(3, 0), 2 * 72 - 64);
        due("WHEN is never so", told("if 0 then 0;").weight(3, 0), 16);
        due("half are THERE", told("if 1 then b;always a;").weight(3, 0), 2 * 32 - 16);
        due("none is THERE", told("if 1 then 0;always 0;").weight(3, 0), 16);
    }

    private static void weightNumbers() {
        says("WEIGHT. NO: BAD.");
        AsARule x = told("if a then b;if c then d;");
        for (int k : new int[] {MIN, MIN + 1, -256, -1, 4, 5, 256, MAX}) {
            due("weight " + k + ", 0", x.weight(k, 0), AsARule.NO);
            due("weight " + k + ", 1", x.weight(k, 1), AsARule.NO);
        }
        for (int r : new int[] {MIN, MIN + 1, -256, -1, 2, 3, 8, 9, 256, MAX}) {
            for (int kind = -1; kind <= 4; kind++) {
                due("weight " + kind + ", " + r, x.weight(kind, r), AsARule.NO);
            }
        }
        due("nothing was traced", x.trace(), 0);
        due("the last RULE", x.weight(3, 1), 2 * 32 - 16);
        due("no RULE", new AsARule().weight(0, 0), AsARule.NO);
    }

    private static void traces() {
        says("THE TRACE, 0 at first, as often as weight() asks that body");
        int[] bodies = {1, 10 + 1, 100 + 1, 1000 + 10 + 1};
        for (int kind = 0; kind < 4; kind++) {
            AsARule x = told("if a then b;");
            due("at first", x.trace(), 0);
            for (int n = 1; n <= 12; n++) {
                x.weight(kind, 0);
                due("kind " + kind + ", " + n + " times", x.trace(), n * bodies[kind]);
            }
            x.weight(kind, 1);
            x.weight(kind, -1);
            x.weight(-1, 0);
            x.weight(4, 0);
            due("what is refused is not traced", x.trace(), 12 * bodies[kind]);
            tell(x, "if 0 then 1;");
            ask(x, "a");
            x.forget();
            x.clear();
            due("nothing takes it back", x.trace(), 12 * bodies[kind]);
        }
    }

    private static void countNumbers() {
        says("0 always, 1 RULES, 2 facts, 3 GUESSES, 4 whether RULES QUARREL, 5 bytes of THE TEXT, 6 WORLDS THERE. BAD.");
        AsARule x = told("always a;".repeat(4) + "if a then b;".repeat(7) + "if a then !b;" + "fact 0;".repeat(3) + "may a;".repeat(6));
        type(x, "?".repeat(400));
        int[] want = {4, 8, 3, 6, 1, 400, 32};
        for (int what = 0; what < want.length; what++) {
            due("count " + what, x.count(what), want[what]);
        }
        for (int what : new int[] {MIN, -9, -1, 7, 8, 256, MAX}) {
            due("count " + what, x.count(what), AsARule.BAD);
        }
    }
}
