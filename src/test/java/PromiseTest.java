/** For each promise of the document: ordinary inputs, the edges that it names, and wrong inputs. */
public final class PromiseTest {
    private static final long A = letter(0), B = letter(1), C = letter(2), D = letter(3), E = letter(4), F = letter(5);
    private static final long ALL = -1L;
    private static int wrong = 0;
    private static int promise = 0;

    public static void main(String[] args) {
        newObject();
        type();
        clear();
        tellItems();
        tellFaults();
        tellLimits();
        tellChangesNothing();
        question();
        worlds();
        there();
        grade();
        gradeOf();
        breaks();
        so();
        soWithoutWorlds();
        best();
        ends();
        leaves();
        held();
        why();
        doubt();
        learn();
        believed();
        forget();
        weight();
        count();
        trace();
        System.out.println(wrong == 0 ? "all promises hold" : wrong + " answers are wrong");
        if (wrong != 0) {
            System.exit(1);
        }
    }

    // ---- helpers

    private static long letter(int i) {
        long worlds = 0;
        for (int w = 0; w < 64; w++) {
            if ((w >> i & 1) == 1) {
                worlds |= 1L << w;
            }
        }
        return worlds;
    }

    private static void due(String what, long got, long want) {
        if (got != want) {
            wrong++;
            System.out.println("promise " + promise + ": " + what + " answered " + got + ", due is " + want);
        }
    }

    /** Eight bytes a call, as an object is used for 512 calls at most. */
    private static void type(AsARule x, String text) {
        for (int i = 0; i < text.length(); i += 8) {
            int n = Math.min(8, text.length() - i);
            long v = 0;
            for (int k = 0; k < n; k++) {
                v = v << 8 | text.charAt(i + k);
            }
            x.type(v, n);
        }
    }

    private static int tell(AsARule x, String text) {
        x.clear();
        type(x, text);
        return x.tell();
    }

    private static int ask(AsARule x, String text) {
        x.clear();
        type(x, text);
        return x.question();
    }

    private static AsARule told(String text) {
        AsARule x = new AsARule();
        if (tell(x, text) < 0) {
            wrong++;
            System.out.println("promise " + promise + ": refused to be told " + text);
        }
        return x;
    }

    private static void faultOfTell(String text, int place) {
        AsARule x = new AsARule();
        due("tell " + text, tell(x, text), -10 - place);
        due("bytes left of " + text, x.clear(), text.length());
    }

    private static void faultOfQuestion(String text, int place) {
        AsARule x = new AsARule();
        due("question " + text, ask(x, text), -10 - place);
        due("bytes left of " + text, x.clear(), text.length());
        due("the question stays", x.worlds(5, 1), ALL);
    }

    /** WORLDS of a SAYING as the class reads it. */
    private static long read(String saying) {
        AsARule x = new AsARule();
        due("question " + saying, ask(x, saying), 1);
        return x.worlds(5, 1);
    }

    private static String repeat(String part, int n) {
        StringBuilder all = new StringBuilder();
        for (int i = 0; i < n; i++) {
            all.append(part);
        }
        return all.toString();
    }

    // ---- promises

    private static void newObject() {
        promise = 1;
        AsARule x = new AsARule();
        for (int what = 0; what < 6; what++) {
            due("count " + what, x.count(what), 0);
        }
        due("worlds there", x.count(6), 64);
        due("there", x.there(0), ALL);
        due("ground", x.there(1), ALL);
        due("of grade 0", x.there(2), ALL);
        due("when", x.worlds(5, 0), ALL);
        due("then", x.worlds(5, 1), ALL);
        due("trace", x.trace(), 0);
        due("doubt", x.doubt(63), 0);
        due("gradeOf", x.gradeOf(63), 0);
        due("ends", x.ends(-1), 1);
        due("end", x.ends(0), 0);
        due("leaves", x.leaves(0), ALL);
        due("held", x.held(), 1);
        due("why", x.why(-1), 1);
        due("why", x.why(0), 0);
        due("so", x.so(3), 1);
        due("believed", x.believed(), 99);
        due("two objects share nothing", x.type('a', 1) + new AsARule().type('a', 1), 2);
    }

    private static void type() {
        promise = 2;
        AsARule x = new AsARule();
        due("no byte", x.type(97, 0), AsARule.BAD);
        due("nine bytes", x.type(97, 9), AsARule.BAD);
        due("less than none", x.type(97, Integer.MIN_VALUE), AsARule.BAD);
        due("highest first", x.type(0x7F61266221L << 8 | 'c', 5), 5);
        due("one more", x.type(-1L << 8 | '|', 1), 6);
        due("one more", x.type('f', 1), 7);
        due("a&b!c|f is at fault at 3", x.question(), -13);
        x.clear();
        due("a&b|!c|f", x.type(0x6126627C21637C66L, 8), 8);
        due("question", x.question(), 1);
        due("its worlds", x.worlds(5, 1), A & B | ~C | F);
        for (int i = 1; i <= 49; i++) {
            due("eight more", x.type(0x2020202020202020L, 8), 8 * i);
        }
        due("seven more", x.type(0x20202020202020L, 7), 399);
        due("two are too many", x.type(0x6161, 2), AsARule.FULL);
        due("bad comes before full", x.type(0x6161, 9), AsARule.BAD);
        due("nothing came", x.count(5), 399);
        due("one fits", x.type('d', 1), 400);
        due("none fits", x.type('d', 1), AsARule.FULL);
        due("question", x.question(), 1);
        due("only the last byte tells", x.worlds(5, 1), D);
    }

    private static void clear() {
        promise = 3;
        AsARule x = new AsARule();
        due("empty", x.clear(), 0);
        x.type(0x616161, 3);
        due("three bytes", x.clear(), 3);
        due("empty again", x.count(5), 0);
        due("empty again", x.clear(), 0);
        x.type('b', 1);
        due("begins anew", x.question(), 1);
        due("begins anew", x.worlds(5, 1), B);
    }

    private static void tellItems() {
        promise = 4;
        AsARule x = new AsARule();
        ask(x, "if a then b");
        due("all sorts", tell(x, " always a|b; if a then b ;fact c;may d;may 1;if 0 then 1;"), 6);
        due("text is empty then", x.count(5), 0);
        due("always", x.count(0), 1);
        due("rules", x.count(1), 2);
        due("facts", x.count(2), 1);
        due("guesses", x.count(3), 2);
        due("the question stays", x.worlds(5, 0), A);
        due("the question stays", x.worlds(5, 1), B);
        due("anew", tell(x, "fact e;"), 1);
        due("no always", x.count(0), 0);
        due("no rule", x.count(1), 0);
        due("no guess", x.count(3), 0);
        due("the fact", x.worlds(3, 0), E);
        due("nothing told", tell(x, ""), 0);
        due("no fact", x.count(2), 0);
        due("blanks alone", tell(x, "   "), 0);
        due("& binds more than |", read("a|b&c"), A | B & C);
        due("& binds more than |", read("a&b|c&d"), A & B | C & D);
        due("! binds most", read("!a&b"), ~A & B);
        due("( )", read("!(a&b)|(c|d)&e"), ~(A & B) | (C | D) & E);
        due("figures", read("0|1&f"), F);
        due("!!", read("! ! ( ( d ) )"), D);
        due("no blanks are needed", tell(x, "if(a)then!b;if!a then(b);may(c);fact!d;always 1;"), 5);
        due("eight are open", read("!(!(!(!(a))))"), A);
        due("eight are open, twice", read("((((((((a))))))))&!!!!!!!!b|!!!!((((c))))"), A & B | C);
    }

    private static void tellFaults() {
        promise = 4;
        faultOfTell("a;", 0);
        faultOfTell("  ;", 2);
        faultOfTell("then a;", 0);
        faultOfTell("always", 6);
        faultOfTell("always  ", 8);
        faultOfTell("always a", 8);
        faultOfTell("always a  ", 10);
        faultOfTell("always a then b;", 9);
        faultOfTell("always if;", 7);
        faultOfTell("if a then;", 9);
        faultOfTell("if a b;", 5);
        faultOfTell("if then b;", 3);
        faultOfTell("if a then b then c;", 12);
        faultOfTell("may a;;", 6);
        faultOfTell("may a;x", 6);
        faultOfTell("may a&;", 6);
        faultOfTell("may |a;", 4);
        faultOfTell("may a!;", 5);
        faultOfTell("may a(b);", 5);
        faultOfTell("may a);", 5);
        faultOfTell("may (a));", 7);
        faultOfTell("may ();", 5);
        faultOfTell("may (a|);", 7);
        faultOfTell("may a1;", 5);
        faultOfTell("may 10;", 5);
        faultOfTell("may 1a;", 5);
        faultOfTell("may g;", 4);
        faultOfTell("may ab;", 4);
        faultOfTell("may az;", 4);
        faultOfTell("may a?b;", 5);
        faultOfTell("may A;", 4);
        faultOfTell("may\ta;", 3);
        faultOfTell("may " + (char) 225 + ";", 4);
        faultOfTell("ma y a;", 0);
        faultOfTell("mayb;", 0);
        faultOfTell("nay a;", 0);
        faultOfTell("fac", 0);
        faultOfTell("alwaysalways a;", 0);
        faultOfTell("may a;may ?b;may g;", 10);
        faultOfTell("may a b ?", 6);
        faultOfTell("may " + repeat("!", 9) + "a;", 12);
        faultOfTell("may " + repeat("(", 9) + "a;", 12);
        faultOfTell("may !a&" + repeat("!(", 4) + "(a;", 15);
        faultOfTell("if " + repeat("(", 8) + "a" + repeat(")", 8) + " then " + repeat("(", 8) + "! a;", 34);
        faultOfTell(repeat(" ", 396) + "may ", 400);
        faultOfTell("may " + repeat("a", 396), 4);
    }

    private static void tellLimits() {
        promise = 4;
        AsARule x = new AsARule();
        due("four always", tell(x, repeat("always a;", 4)), 4);
        due("eight rules", tell(x, repeat("if a then b;", 8)), 8);
        due("four facts", tell(x, repeat("fact a;", 4)), 4);
        due("six guesses", tell(x, repeat("may a;", 6)), 6);
        due("all at once", tell(x, repeat("always a;", 4) + repeat("if a then b;", 8) + repeat("fact a;", 4)
            + repeat("may a;", 6)), 22);
        faultOfTell(repeat("always a;", 5), 36);
        faultOfTell(repeat("if a then b;", 9), 96);
        faultOfTell(repeat("fact a;", 5), 28);
        faultOfTell(repeat("may a;", 7), 36);
        faultOfTell(repeat("may a;", 6) + "may", 36);
        due("197 times &", tell(x, "may a" + repeat("&a", 197) + ";"), 1);
        due("197 times |", tell(x, "may 0" + repeat("|f", 197) + ";"), 1);
        due("its worlds", x.worlds(4, 0), F);
    }

    private static void tellChangesNothing() {
        promise = 4;
        AsARule x = told("always a|b;if a then c;fact b;may d;");
        ask(x, "a");
        due("learnt", x.learn(7), 16);
        due("refused", tell(x, "always !a;if b then d;fact e;may f;may"), -48);
        due("always", x.worlds(0, 0), A | B);
        due("when", x.worlds(1, 0), A);
        due("then", x.worlds(2, 0), C);
        due("fact", x.worlds(3, 0), B);
        due("guess", x.worlds(4, 0), D);
        due("question", x.worlds(5, 1), A);
        due("doubt", x.doubt(2), 7);
        due("text", x.count(5), 38);
        x.clear();
        due("told", tell(x, "always a|b;"), 1);
        due("doubts are grades again", x.doubt(2), 0);
    }

    private static void question() {
        promise = 5;
        AsARule x = told("may a;");
        due("if then", ask(x, " if a&b then c|d "), 1);
        due("text is empty then", x.count(5), 0);
        due("when", x.worlds(5, 0), A & B);
        due("then", x.worlds(5, 1), C | D);
        due("alone", ask(x, "!f"), 1);
        due("when is 1 then", x.worlds(5, 0), ALL);
        due("then", x.worlds(5, 1), ~F);
        due("the items stay", x.count(3), 1);
        faultOfQuestion("", 0);
        faultOfQuestion("  ", 2);
        faultOfQuestion("a;", 1);
        faultOfQuestion("if a", 4);
        faultOfQuestion("if a then", 9);
        faultOfQuestion("if a then b;", 11);
        faultOfQuestion("if a then b if", 12);
        faultOfQuestion("a then b", 2);
        faultOfQuestion("always a", 0);
        faultOfQuestion("a if", 2);
        faultOfQuestion("a b", 2);
        faultOfQuestion("(a", 2);
        faultOfQuestion("a)", 1);
        faultOfQuestion(repeat("!", 9) + "a", 8);
        faultOfQuestion("if " + repeat("(", 9), 11);
        due("eight are open in when and in then", ask(x, "if !!!!!!!!e then ((((((((f))))))))"), 1);
        due("a text of 400 tokens", ask(x, "!a" + repeat("|b", 199)), 1);
        due("its worlds", x.worlds(5, 1), ~A | B);
        faultOfQuestion("a" + repeat("|b", 199) + "|", 400);
        faultOfQuestion("a" + repeat("|b", 199) + "!", 399);
        ask(x, "if e then f");
        due("refused", ask(x, "if a then b;"), -21);
        due("stays", x.worlds(5, 0), E);
        due("stays", x.worlds(5, 1), F);
        AsARule y = told("always a|b;");
        ask(y, "a");
        y.learn(4);
        ask(y, "b");
        due("a question leaves doubts alone", y.doubt(2), 4);
    }

    private static void worlds() {
        promise = 6;
        AsARule x = told("always a;always b;if c then d;if e then f;fact !a;fact !b;may !c;may a|f;may 0;");
        ask(x, "if d then e");
        long[][] want = {{A, B}, {C, E}, {D, F}, {~A, ~B}, {~C, A | F, 0}, {D, E}};
        for (int sort = 0; sort < want.length; sort++) {
            for (int i = 0; i < want[sort].length; i++) {
                due("worlds " + sort + ", " + i, x.worlds(sort, i), want[sort][i]);
            }
            due("beyond", x.worlds(sort, want[sort].length), 0);
            due("before", x.worlds(sort, -1), 0);
            due("far", x.worlds(sort, Integer.MAX_VALUE), 0);
            due("far", x.worlds(sort, Integer.MIN_VALUE), 0);
        }
        due("no sort", x.worlds(6, 0), 0);
        due("no sort", x.worlds(-1, 0), 0);
        tell(x, "always f;");
        due("no longer told", x.worlds(0, 1), 0);
        due("no longer told", x.worlds(1, 0), 0);
    }

    private static void there() {
        promise = 7;
        AsARule x = told("always a|b;always c;fact d;fact !e;if a then f;if b then 0;");
        due("there", x.there(0), (A | B) & C);
        due("ground", x.there(1), (A | B) & C & D & ~E);
        due("of grade 0", x.there(2), A & ~B & C & F);
        due("bad", x.there(3), 0);
        due("bad", x.there(-1), 0);
        due("empty", told("always a;always !a;").there(0), 0);
        due("no ground", told("fact a;fact !a;").there(1), 0);
        due("none of grade 0", told("if 1 then 0;").there(2), 0);
    }

    private static void grade() {
        promise = 8;
        AsARule x = told("if a then f;if d then !f;if a then c;always !d|a;");
        due("plain", x.grade(0), 0);
        due("nearer", x.grade(1), 1);
        due("plain", x.grade(2), 0);
        due("no such rule", x.grade(3), AsARule.BAD);
        due("no such rule", x.grade(-1), AsARule.BAD);
        due("no such rule", x.grade(Integer.MAX_VALUE), AsARule.BAD);
        tell(x, "if a then b;if a&c then !b;if a&c&d then b;if a&c&d&e then !b;if 0 then a;");
        for (int r = 0; r < 4; r++) {
            due("one deeper each time", x.grade(r), r);
        }
        due("never borne", x.grade(4), AsARule.NONE);
        tell(x, "if a then b;if a then !b;if c then d;");
        due("quarrels", x.grade(0), AsARule.NONE);
        due("quarrels", x.grade(1), AsARule.NONE);
        due("borne by all, as it is so where a is not", x.grade(2), 0);
        tell(x, "always !b;if a then b;if c then d;");
        due("not there", x.grade(0), AsARule.NONE);
        due("there", x.grade(1), 0);
        due("an empty world breaks no rule, but bears none", told("if a then b;always 0;").grade(0), AsARule.NONE);
        due("facts do not matter", told("if a then b;fact !a;").grade(0), 0);
        String most = "if a then f;if a&b then !f;if a&b&c then f;if a&b&c&d then !f;if a&b&c&d&e then f;";
        due("as the last", told(most + "if !a then f;").grade(4), 4);
        due("as the first", told(most + "if !a then f;").grade(5), 0);
        due("the eighth", told("if a then f;" + repeat("if b then c;", 6) + "if a&b then !f;").grade(7), 1);
    }

    private static void gradeOf() {
        promise = 9;
        AsARule x = told("if a then b;if a&c then !b;if d then 0;always !f;");
        due("breaks none", x.gradeOf(0), 0);
        due("breaks none", x.gradeOf(3), 0);
        due("breaks grade 0", x.gradeOf(1), 1);
        due("breaks grade 0", x.gradeOf(1 + 4), 1);
        due("breaks grade 1", x.gradeOf(1 + 2 + 4), 2);
        due("breaks one that has none", x.gradeOf(8), 9);
        due("not there", x.gradeOf(32), AsARule.NONE);
        due("last there", x.gradeOf(31), 9);
        due("no world", x.gradeOf(64), AsARule.BAD);
        due("no world", x.gradeOf(-1), AsARule.BAD);
    }

    private static void breaks() {
        promise = 10;
        AsARule x = told("if a then b;if 1 then c;if d then 0;always !f;");
        due("one", x.breaks(0), 2);
        due("two", x.breaks(1), 3);
        due("none", x.breaks(4), 0);
        due("all", x.breaks(9), 7);
        due("a world that is not there breaks them, too", x.breaks(33), 3);
        due("no world", x.breaks(64), AsARule.BAD);
        due("no world", x.breaks(-1), AsARule.BAD);
        due("eight", told(repeat("if 1 then 0;", 8)).breaks(63), 255);
        due("without rules", new AsARule().breaks(63), 0);
    }

    private static void so() {
        promise = 11;
        // birds (a) fly (f) and have wings (c), penguins (d) are birds and do not fly
        AsARule x = told("if a then f;if d then !f;if a then c;always !d|a;");
        String[] asked = {"if d then !f", "if d then c", "if d then a", "if a then f", "if a then !d", "if f then a", "if d&f then c"};
        int[][] want = {{1, 1, 1, 0}, {0, 1, 0, 0}, {1, 1, 1, 1}, {1, 1, 1, 0}, {1, 1, 1, 0}, {0, 0, 0, 0}, {0, 1, 0, 0}};
        for (int q = 0; q < asked.length; q++) {
            ask(x, asked[q]);
            for (int how = 0; how < 4; how++) {
                due("so " + how + " of " + asked[q], x.so(how), want[q][how]);
            }
        }
        due("bad", x.so(4), AsARule.BAD);
        due("bad", x.so(-1), AsARule.BAD);
        tell(x, "if a then b;if c then d;if c then d;");
        ask(x, "if a&c&!(b&d) then d");
        due("fewer are broken", x.so(1), 1);
        due("all are of one grade", x.so(0), 0);
        tell(x, "if a then b;if a&c then !b;if a then d;if a then e;");
        ask(x, "if a&c&(b|!d&!e) then !b");
        due("the greater grade counts first", x.so(1), 1);
        tell(x, "if a then 0;if b then c;if b then d;if b then e;");
        ask(x, "if a&!b|b&!c&!d&!e then b");
        due("those without a grade count first of all", x.so(1), 1);
        due("ever, as rules quarrel", x.so(2), 1);
        due("plainly", x.so(0), 1);
    }

    private static void soWithoutWorlds() {
        promise = 11;
        AsARule x = told("if a then b;always !c;");
        ask(x, "if c then 0");
        for (int how = 0; how < 4; how++) {
            due("none with when, " + how, x.so(how), 1);
        }
        tell(x, "always 0;");
        ask(x, "0");
        for (int how = 0; how < 4; how++) {
            due("none there, " + how, x.so(how), 1);
        }
        x = told(repeat("if a then b;", 8));
        ask(x, "if a then b");
        due("one more than eight", x.so(2), 1);
        ask(x, "if a then c");
        due("one more than eight", x.so(2), 0);
        due("the rules are as before", x.count(1), 8);
        due("the rules do not quarrel", x.count(4), 0);
    }

    private static void best() {
        promise = 12;
        AsARule x = told("if a then b;if a then c;always !f;");
        due("without when: all that break none", x.best(0), (~A | B & C) & ~F);
        ask(x, "if a&!b then 0");
        due("by grade", x.best(0), A & ~B & ~F);
        due("by count", x.best(1), A & ~B & C & ~F);
        due("bad", x.best(2), 0);
        due("bad", x.best(-1), 0);
        ask(x, "if f then 1");
        due("none there by grade", x.best(0), 0);
        due("none there by count", x.best(1), 0);
        tell(x, repeat("if 1 then 0;", 8));
        ask(x, "if e then 0");
        due("all break all by grade", x.best(0), E);
        due("all break all by count", x.best(1), E);
    }

    private static void ends() {
        promise = 13;
        AsARule x = told("fact a;if a then b;if a then !b;if b then c;if d then e;");
        due("how many", x.ends(-1), 2);
        due("in order of numbers", x.ends(0), 2);
        due("in order of numbers", x.ends(1), 5);
        due("bad", x.ends(2), AsARule.BAD);
        due("bad", x.ends(-2), AsARule.BAD);
        due("bad", x.ends(Integer.MAX_VALUE), AsARule.BAD);
        tell(x, "fact a;fact !a;if 1 then b;");
        due("no ground", x.ends(-1), 0);
        due("no ground", x.ends(0), AsARule.BAD);
        tell(x, "if b then c;if a then b;if 1 then a;");
        due("later rules let earlier ones in", x.ends(0), 7);
        tell(x, "fact a;if a then b;if b then !a;");
        due("a then that is never so bars", x.ends(0), 1);
        due("only one", x.ends(-1), 1);
        tell(x, "if b then b;if 1 then 1;");
        due("none bears itself, what is so anyhow is taken on", x.ends(0), 2);
        tell(x, "if 1 then a;if 1 then !a;if 1 then b;if 1 then !b;if 1 then c;if 1 then !c;if 1 then d;if 1 then !d;");
        due("sixteen", x.ends(-1), 16);
        due("first", x.ends(0), 0x55);
        due("last", x.ends(15), 0xAA);
        due("bad", x.ends(16), AsARule.BAD);
        tell(x, "if 1 then !a|b;if 1 then a;if b then c;");
        due("what follows from two lets a third in", x.ends(0), 7);
        tell(x, "if e then f;if d then e;if c then d;if b then c;if a&(b|c) then b;if a then b|c;if a|b then a;if 1 then a|b;");
        due("the last lets in the one before it, and so on", x.ends(0), 255);
        due("only one", x.ends(-1), 1);
    }

    private static void leaves() {
        promise = 14;
        AsARule x = told("fact a;if a then b;if a then !b;if b then c;always !f;");
        due("first", x.leaves(0), A & ~B & ~F);
        due("second", x.leaves(1), A & B & C & ~F);
        due("bad", x.leaves(2), 0);
        due("bad", x.leaves(-1), 0);
        due("bad", x.leaves(Integer.MIN_VALUE), 0);
        tell(x, "fact a;fact !a;");
        due("no ends", x.leaves(0), 0);
        tell(x, "if a then b;fact c;");
        due("ground", x.leaves(0), C);
    }

    private static void held() {
        promise = 15;
        AsARule x = told("fact a;if a then b;if a then !b;if b then c;");
        String[] asked = {"a", "b", "!b", "c", "d", "b|!b", "0", "if 0 then b"};
        int[] want = {2, 1, 1, 1, 0, 2, 0, 1};
        for (int q = 0; q < asked.length; q++) {
            ask(x, asked[q]);
            due("held " + asked[q], x.held(), want[q]);
        }
        tell(x, "fact 0;");
        ask(x, "1");
        due("no ends", x.held(), 0);
    }

    private static void why() {
        promise = 16;
        AsARule x = told("always !(a&b)|e;always !c|e;always !(a&d);may a;may b;may c;may d;may e&0;fact f;");
        ask(x, "e");
        due("how many", x.why(-1), 2);
        due("the fewer first", x.why(0), 4);
        due("the more then", x.why(1), 3);
        due("bad", x.why(2), AsARule.BAD);
        due("bad", x.why(-2), AsARule.BAD);
        due("bad", x.why(Integer.MIN_VALUE), AsARule.BAD);
        due("bad", x.why(Integer.MAX_VALUE), AsARule.BAD);
        ask(x, "f");
        due("so by the facts: none is needed", x.why(-1), 1);
        due("so by the facts: none is needed", x.why(0), 0);
        ask(x, "!f");
        due("never", x.why(-1), 0);
        due("never", x.why(0), AsARule.BAD);
        ask(x, "if 0 then a&!d");
        due("the question's then alone", x.why(0), 1);
        tell(x, "fact a;fact !a;may b;");
        ask(x, "b");
        due("no ground", x.why(-1), 0);
        tell(x, "may a;may b;may c;may d;may e;may f;");
        ask(x, "a&b&c&d&e&f");
        due("all six", x.why(0), 63);
        ask(x, "a&b|b&c|d|e&f");
        int[] want = {8, 3, 6, 48};
        for (int k = 0; k < want.length; k++) {
            due("in order", x.why(k), want[k]);
        }
        due("how many", x.why(-1), 4);
        tell(x, "if 1 then b;may a;");
        ask(x, "b");
        due("rules tell no why", x.why(-1), 0);
    }

    private static void doubt() {
        promise = 17;
        AsARule x = told("if a then b;if a&c then !b;if d then 0;always !f;");
        for (int w = 0; w < 64; w++) {
            due("at first its grade, " + w, x.doubt(w), x.gradeOf(w));
        }
        due("not there", x.doubt(63), AsARule.NONE);
        due("bad", x.doubt(64), AsARule.BAD);
        due("bad", x.doubt(-1), AsARule.BAD);
        ask(x, "a");
        x.learn(5);
        due("learnt", x.doubt(0), 5);
        due("learnt", x.doubt(1), 1);
        due("still not there", x.doubt(63), AsARule.NONE);
        tell(x, "");
        due("told anew", x.doubt(0), 0);
    }

    private static void learn() {
        promise = 18;
        AsARule x = told("if a then b;if 1 then !a;");
        due("without a question that may be so or not", x.learn(1), AsARule.STATE);
        ask(x, "a");
        due("too little", x.learn(0), AsARule.BAD);
        due("too much", x.learn(21), AsARule.BAD);
        due("too little", x.learn(Integer.MIN_VALUE), AsARule.BAD);
        due("nothing changed", x.doubt(1), 2);
        due("learnt", x.learn(3), 16);
        due("so, and breaks that of grade 0 alone", x.doubt(3), 0);
        due("so, and breaks both", x.doubt(1), 1);
        due("not so", x.doubt(0), 3);
        ask(x, "0");
        due("never so", x.learn(1), AsARule.STATE);
        due("bad comes first", x.learn(0), AsARule.BAD);
        ask(x, "1");
        due("always so", x.learn(20), AsARule.STATE);
        tell(x, "always a;");
        ask(x, "a");
        due("so in all there", x.learn(1), AsARule.STATE);
        ask(x, "!a");
        due("so in none there", x.learn(1), AsARule.STATE);
        tell(x, "always 0;");
        due("none there", x.learn(1), AsARule.STATE);
        tell(x, "if a then b;if a&b then 0;");
        ask(x, "a");
        due("all with it break one without a grade", x.learn(2), 32);
        due("9 less 9", x.doubt(1), 0);
        due("9 less 9", x.doubt(3), 0);
        tell(x, "if a then b;if a&c then !b;");
        ask(x, "a&c");
        due("least of grades 1 and 2 is 1", x.learn(20), 8);
        due("with it, the greater", x.doubt(7), 1);
        due("without it", x.doubt(0), 20);
        due("without it, the greater", x.doubt(1), 21);
        tell(x, "");
        String[] letters = {"a", "b", "c", "d", "e", "f"};
        int[] zeros = {32, 16, 8, 4, 2, 1};
        for (int i = 0; i < 6; i++) {
            ask(x, letters[i]);
            due("one letter more", x.learn(20), zeros[i]);
        }
        due("99 at most", x.doubt(0), 99);
        due("60 for three", x.doubt(7), 60);
        due("80 for four", x.doubt(3), 80);
        due("99 and not 100", x.doubt(1), 99);
        ask(x, "a|b|c|d|e|f");
        due("which stays so", x.learn(1), 1);
        due("the last comes down", x.doubt(0), 1);
    }

    private static void believed() {
        promise = 19;
        AsARule x = told("if 1 then a;if a then b;always !f;");
        String[] asked = {"a", "!a", "a&b", "a|c", "c", "f", "!f", "1", "0"};
        int[] want = {1, -1, 1, 1, 0, -99, 99, 99, -99};
        for (int q = 0; q < asked.length; q++) {
            ask(x, asked[q]);
            due("believed " + asked[q], x.believed(), want[q]);
        }
        ask(x, "c");
        x.learn(7);
        due("learnt", x.believed(), 7);
        ask(x, "!c");
        due("its contrary", x.believed(), -7);
        ask(x, "if !c then c");
        due("the question's then alone", x.believed(), 7);
        tell(x, "always 0;");
        due("none at all", x.believed(), 99);
        tell(x, "if 1 then 0;");
        ask(x, "0");
        due("never so, where all are in doubt", x.believed(), -99);
        ask(x, "1");
        due("always so, where all are in doubt", x.believed(), 99);
        tell(x, "if a|b|c|d|e|f then 0;");
        ask(x, "a");
        due("world 0 counts", x.believed(), -9);
        ask(x, "!(a|b|c|d|e|f)");
        due("world 0 counts", x.believed(), 9);
        tell(x, "if !(a&b&c&d&e&f) then 0;");
        ask(x, "a");
        due("world 63 counts", x.believed(), 9);
    }

    private static void forget() {
        promise = 20;
        AsARule x = told("if 1 then a;always !f;");
        due("grades", x.forget(), 16);
        ask(x, "!a");
        due("learnt", x.learn(9), 16);
        due("doubt", x.doubt(1), 9);
        due("doubt", x.doubt(0), 0);
        due("forgotten", x.forget(), 16);
        due("grade", x.doubt(1), 0);
        due("grade", x.doubt(0), 1);
        due("not there", x.doubt(32), AsARule.NONE);
        due("rules that quarrel", told("if 1 then 0;").forget(), 0);
        due("none there", told("always 0;").forget(), 0);
        due("new", new AsARule().forget(), 64);
    }

    private static void weight() {
        promise = 21;
        AsARule x = told("if a then b;if a&c then !b;if d then 0;always !f;");
        int[][] want = {{16, 8, 16}, {16, 9, 24}, {8, 4, 8}, {24, 14, 32}};
        for (int kind = 0; kind < 4; kind++) {
            for (int rule = 0; rule < 3; rule++) {
                due("weight " + kind + ", " + rule, x.weight(kind, rule), want[kind][rule]);
            }
        }
        long traced = x.trace();
        due("no such kind", x.weight(4, 0), AsARule.NO);
        due("no such kind", x.weight(-1, 0), AsARule.NO);
        due("no such rule", x.weight(0, 3), AsARule.NO);
        due("no such rule", x.weight(3, -1), AsARule.NO);
        due("no such rule", new AsARule().weight(0, 0), AsARule.NO);
        due("refused: nothing is traced", x.trace(), traced);
        tell(x, "if a&b&c&d&e&f then 1;if 1 then 0;");
        due("half, rounded down", x.weight(2, 0), 0);
        due("all", x.weight(0, 1), 64);
        due("strong", x.weight(3, 1), 2 * (64 + 8) - 64);
    }

    private static void count() {
        promise = 22;
        AsARule x = told("always a;if a then b;if c then d;fact a;fact b;fact c;may a;may b;may c;may d;");
        x.type(0, 5);
        int[] want = {1, 2, 3, 4, 0, 5, 32};
        for (int what = 0; what < want.length; what++) {
            due("count " + what, x.count(what), want[what]);
        }
        due("bad", x.count(7), AsARule.BAD);
        due("bad", x.count(-1), AsARule.BAD);
        due("quarrel", told("if a then b;if a then !b;").count(4), 1);
        due("quarrel of one", told("if 0 then 1;").count(4), 1);
        due("no quarrel of grades", told("if a then b;if a&c then !b;").count(4), 0);
        due("none there, no rules", told("always 0;").count(4), 0);
    }

    private static void trace() {
        promise = 23;
        AsARule x = told("if a then b;");
        long sum = 0;
        int[] bodies = {1, 11, 101, 1011};
        for (int kind = 0; kind < 4; kind++) {
            due("before", x.trace(), sum);
            x.weight(kind, 0);
            sum += bodies[kind];
            due("kind " + kind, x.trace(), sum);
        }
        x.weight(4, 0);
        x.so(0);
        x.forget();
        tell(x, "if a then b;");
        due("nothing else is traced, nor lost", x.trace(), sum);
    }
}
