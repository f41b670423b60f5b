/**
 * Each sentence of the document that names an edge of texts (how long, how many, how deep, what can stand where, where FAULT is),
 * in the document's order; says() quotes the sentence that is tested.
 */
public final class TextEdgesTest {
    private static final long A = letter(0), B = letter(1), C = letter(2), D = letter(3), E = letter(4), F = letter(5);
    private static final long ALL = -1L;
    private static final String[] WORDS = {"always", "if", "then", "fact", "may"};
    private static int wrong = 0;
    private static String sentence = "";

    public static void main(String[] args) {
        letters();
        worldsByBits();
        boths();
        ones();
        figuresAndOpeners();
        eightOpen();
        nineOpen();
        closedOnesAreNotOpen();
        openInEachSaying();
        fourHundredBytes();
        blanks();
        endedBySemicolon();
        fourAlways();
        eightRules();
        fourFacts();
        sixGuesses();
        allSortsFull();
        fullSortIsFaultAtOnce();
        numberedAsTheyStand();
        questions();
        words();
        figuresByThemselves();
        signs();
        faultOfFirstToken();
        faultOfByte();
        faultOfWord();
        faultOfEnd();
        typeCounts();
        typeOrder();
        typeFull();
        clear();
        tellAnew();
        tellFault();
        questionFault();
        faultFarthest();
        worldsOfSorts();
        System.out.println(wrong == 0 ? "all edges of texts hold" : wrong + " edges of texts are wrong");
        if (wrong != 0) {
            System.exit(1);
        }
    }

    // ---- helpers

    private static void says(String quoted) {
        sentence = quoted;
    }

    private static void due(String what, long got, long want) {
        if (got != want) {
            wrong++;
            System.out.println("'" + sentence + "': " + what + " answered " + got + ", due is " + want);
        }
    }

    private static long letter(int i) {
        long worlds = 0;
        for (int w = 0; w < 64; w++) {
            if ((w >> i & 1) == 1) {
                worlds |= 1L << w;
            }
        }
        return worlds;
    }

    /** Eight bytes a call, so that no object sees more than its 512 calls. */
    private static void type(AsARule x, String text) {
        for (int i = 0; i < text.length(); i += 8) {
            int n = Math.min(8, text.length() - i);
            long v = 0;
            for (int k = 0; k < n; k++) {
                v = v << 8 | text.charAt(i + k);
            }
            x.type(v, n);
        }
    }

    private static AsARule typed(String text) {
        AsARule x = new AsARule();
        type(x, text);
        return x;
    }

    /** A text that can be told; the object that was told it. */
    private static AsARule told(String text, int items) {
        AsARule x = typed(text);
        due("tell " + text, x.tell(), items);
        due("bytes after tell " + text, x.count(5), 0);
        return x;
    }

    /** A text that can't be told: FAULT, and behind it an object as new but for THE TEXT. */
    private static void noTell(String text, int fault) {
        AsARule x = typed(text);
        due("tell " + text, x.tell(), -10 - fault);
        due("bytes after tell " + text, x.count(5), text.length());
        for (int sort = 0; sort < 4; sort++) {
            due("count " + sort + " after tell " + text, x.count(sort), 0);
        }
        due("there after tell " + text, x.there(0), ALL);
        due("ground after tell " + text, x.there(1), ALL);
        due("once more tell " + text, x.tell(), -10 - fault);
    }

    private static void asked(String text, long when, long then) {
        AsARule x = typed(text);
        due("question " + text, x.question(), 1);
        due("bytes after question " + text, x.count(5), 0);
        due("WHEN of " + text, x.worlds(5, 0), when);
        due("THEN of " + text, x.worlds(5, 1), then);
    }

    private static void noQuestion(String text, int fault) {
        AsARule x = typed("if e then f");
        x.question();
        type(x, text);
        due("question " + text, x.question(), -10 - fault);
        due("bytes after question " + text, x.count(5), text.length());
        due("WHEN after question " + text, x.worlds(5, 0), E);
        due("THEN after question " + text, x.worlds(5, 1), F);
        due("once more question " + text, x.question(), -10 - fault);
    }

    /** What a mask opens: bit i of it tells whether the i-th is ( or !. */
    private static String opening(int mask, int n) {
        StringBuilder all = new StringBuilder();
        for (int i = 0; i < n; i++) {
            all.append((mask >> i & 1) == 1 ? '(' : '!');
        }
        return all.toString();
    }

    // ---- sayings

    private static void letters() {
        says("LETTERS are a .. f (0 .. 5)");
        long[] all = {A, B, C, D, E, F};
        for (int i = 0; i < 26; i++) {
            String word = "" + (char) ('a' + i);
            if (i < 6) {
                asked(word, ALL, all[i]);
            } else {
                noQuestion(word, 0);
            }
        }
    }

    private static void worldsByBits() {
        says("WORLDS 0 .. 63: bit i: LETTER i is so");
        asked("!a&!b&!c&!d&!e&!f", ALL, 1L);
        asked("a&!b&!c&!d&!e&!f", ALL, 1L << 1);
        asked("!a&!b&!c&!d&!e&f", ALL, 1L << 32);
        asked("!a&b&c&d&e&f", ALL, 1L << 62);
        asked("a&b&c&d&e&f", ALL, 1L << 63);
    }

    private static void boths() {
        says("A SAYING: BOTHS with | between");
        asked("a", ALL, A);
        asked("a|b", ALL, A | B);
        asked("a|b|c|d|e|f", ALL, A | B | C | D | E | F);
        asked("a&b|c&d|e&f", ALL, A & B | C & D | E & F);
        asked("a|b&c", ALL, A | B & C);
        noQuestion("|", 0);
        noQuestion("|a", 0);
        noQuestion("a|", 2);
        noQuestion("a||b", 2);
        noQuestion("a|b|", 4);
        noQuestion("a|&b", 2);
    }

    private static void ones() {
        says("BOTH: ONES with & between");
        asked("a&b", ALL, A & B);
        asked("a&b&c&d&e&f", ALL, 1L << 63);
        asked("!a&(b|c)&1&d", ALL, ~A & (B | C) & D);
        noQuestion("&", 0);
        noQuestion("&a", 0);
        noQuestion("a&", 2);
        noQuestion("a&&b", 2);
        noQuestion("a&|b", 2);
        noQuestion("a b", 2);
        noQuestion("a!b", 1);
        noQuestion("a(b)", 1);
        noQuestion("(a)(b)", 3);
        noQuestion("(a)b", 3);
    }

    private static void figuresAndOpeners() {
        says("ONE: a LETTER, 0 (never so), 1 (always), ! ONE, ( SAYING )");
        asked("0", ALL, 0);
        asked("1", ALL, ALL);
        asked("!0", ALL, ALL);
        asked("!1", ALL, 0);
        asked("!a|b", ALL, ~A | B);
        asked("!(a|b)", ALL, ~(A | B));
        asked("(0)", ALL, 0);
        asked("((a|b)&(c|d))", ALL, (A | B) & (C | D));
        noQuestion("!", 1);
        noQuestion("!!", 2);
        noQuestion("!&a", 1);
        noQuestion("!|a", 1);
        noQuestion("!)", 1);
        noQuestion("(", 1);
        noQuestion(")", 0);
        noQuestion("()", 1);
        noQuestion("(a", 2);
        noQuestion("((a)", 4);
        noQuestion("a)", 1);
        noQuestion("(a))", 3);
        noQuestion("(a b)", 3);
        noQuestion("(a|)", 3);
        noQuestion("(if a then b)", 1);
        noQuestion("(a;)", 2);
    }

    private static void eightOpen() {
        says("8 ! and ( open in one another at most");
        for (int n = 0; n <= 8; n++) {
            for (int mask = 0; mask < 1 << n; mask++) {
                int brackets = Integer.bitCount(mask);
                boolean turned = (n - brackets) % 2 == 1;
                asked(opening(mask, n) + "d" + ")".repeat(brackets), ALL, turned ? ~D : D);
            }
        }
    }

    private static void nineOpen() {
        says("a ninth that is open, too");
        for (int mask = 0; mask < 1 << 9; mask++) {
            noQuestion(opening(mask, 9) + "d" + ")".repeat(Integer.bitCount(mask)), 8);
        }
        noQuestion(" ! ! ! ! ! ! ! !  (a)", 18);
        noQuestion("!".repeat(20), 8);
        noQuestion("(".repeat(400), 8);
        noQuestion("!".repeat(9), 8);
        noQuestion("!".repeat(8), 8);
        noQuestion("a&" + "(".repeat(8) + "b&!c" + ")".repeat(8), 12);
    }

    private static void closedOnesAreNotOpen() {
        says("8 ! and ( open in one another at most (those that are closed again do not count)");
        asked("!a&!b&!c&!d&!e&!f&!a&!b&!c&!d", ALL, 1L);
        asked("(a)&(b)&(c)&(d)&(e)&(f)&(a)&(b)&(c)&(d)", ALL, 1L << 63);
        asked("!".repeat(8) + "a&" + "!".repeat(8) + "b|" + "!".repeat(7) + "c", ALL, A & B | ~C);
        asked("(".repeat(8) + "a" + ")".repeat(8) + "|" + "(".repeat(8) + "b" + ")".repeat(8), ALL, A | B);
        asked("(".repeat(7) + "(a)&!b|(c)" + ")".repeat(7), ALL, A & ~B | C);
        asked("(".repeat(7) + "!a&!b|!c" + ")".repeat(7), ALL, ~A & ~B | ~C);
        noQuestion("(".repeat(7) + "!a&!(b)" + ")".repeat(7), 11);
        asked("((((!!!!a))))&!!!!((((b))))", ALL, A & B);
    }

    private static void openInEachSaying() {
        says("8 ! and ( open in one another at most (in each SAYING of a text)");
        String eight = "(".repeat(8) + "a" + ")".repeat(8);
        String nine = "(".repeat(9) + "a" + ")".repeat(9);
        told("always " + eight + ";if " + eight + " then " + eight + ";fact " + eight + ";may " + eight + ";", 4);
        asked("if " + eight + " then " + eight, A, A);
        noTell("always " + nine + ";", 7 + 8);
        noTell("if " + nine + " then a;", 3 + 8);
        noTell("if " + eight + " then " + nine + ";", 3 + 17 + 6 + 8);
        noTell("fact " + nine + ";", 5 + 8);
        noTell("may " + nine + ";", 4 + 8);
        noQuestion("if " + nine + " then a", 3 + 8);
        noQuestion("if " + eight + " then " + nine, 3 + 17 + 6 + 8);
    }

    // ---- texts

    private static void fourHundredBytes() {
        says("A TEXT (400 bytes at most)");
        AsARule x = told("may a" + "&a".repeat(197) + ";", 1);
        due("GUESS of 400 bytes", x.worlds(4, 0), A);
        asked("a" + "|a".repeat(199) + " ", ALL, A);
        asked(" ".repeat(399) + "f", ALL, F);
        told(" ".repeat(400), 0);
        x = typed("a".repeat(399));
        due("the last byte", x.type('a', 1), 400);
        due("one more", x.type('a', 1), AsARule.FULL);
        due("bytes", x.count(5), 400);
    }

    private static void blanks() {
        says("is read byte by byte, blanks (32) between TOKENS");
        told("   always   a   |   b   ;   if   a   then   !   (   b   )   ;   ", 2);
        told("if(a)then!b;fact!a;may(b);always(1);", 4);
        told("", 0);
        told(" ", 0);
        asked("  if  a  then  b  ", A, B);
        noTell("al ways a;", 0);
        noTell("always a;i f a then b;", 9);
        int[] noBlanks = {0, 9, 10, 11, 12, 13, 31, 95, 127, 160, 255};
        for (int sign : noBlanks) {
            noQuestion("a" + (char) sign, 1);
            noQuestion((char) sign + "a", 0);
            noTell("may" + (char) sign + "a;", 3);
        }
    }

    private static void endedBySemicolon() {
        says("ITEMS, each ended by ;");
        String[] items = {"always a", "if a then b", "fact a", "may a"};
        for (String item : items) {
            told(item + ";", 1);
            told(item + " ; " + item + ";", 2);
            noTell(item, item.length());
            noTell(item + " fact b;", item.length() + 1);
            noTell(item + ";;", item.length() + 1);
            noTell(";" + item + ";", 0);
            noTell(item + ";" + item, 2 * item.length() + 1);
        }
        noTell(";", 0);
        noTell("   ;", 3);
    }

    private static void most(String item, int sort, int most) {
        for (int n = 0; n <= most; n++) {
            due("count of " + n, told(item.repeat(n), n).count(sort), n);
        }
        noTell(item.repeat(most + 1), most * item.length());
        noTell(item.repeat(most) + "  " + item, most * item.length() + 2);
    }

    private static void fourAlways() {
        says("always SAYING (4 at most) .. a fifth always");
        most("always 1;", 0, 4);
    }

    private static void eightRules() {
        says("a RULE, 8 at most .. a ninth RULE");
        most("if a then b;", 1, 8);
    }

    private static void fourFacts() {
        says("fact SAYING (4 at most) .. a fifth fact");
        most("fact 1;", 2, 4);
    }

    private static void sixGuesses() {
        says("may SAYING (a GUESS, 6 at most) .. a seventh GUESS");
        most("may a;", 3, 6);
    }

    private static void allSortsFull() {
        says("always 4, RULES 8, fact 4, GUESS 6 at most (each sort for itself)");
        String full = "always 1;".repeat(4) + "if a then b;".repeat(8) + "fact 1;".repeat(4) + "may a;".repeat(6);
        AsARule x = told(full, 22);
        int[] most = {4, 8, 4, 6};
        for (int sort = 0; sort < 4; sort++) {
            due("count " + sort, x.count(sort), most[sort]);
        }
        String[] more = {"always 1;", "if a then b;", "fact 1;", "may a;"};
        for (String item : more) {
            noTell(full + item, full.length());
        }
        told("may a;".repeat(3) + "fact a;".repeat(4) + "may a;".repeat(3) + "always a;", 11);
    }

    private static void fullSortIsFaultAtOnce() {
        says("the first TOKEN that can't stand there (a fifth always or fact, a ninth RULE, a seventh GUESS)");
        noTell("always 1;".repeat(4) + "always", 36);
        noTell("always 1;".repeat(4) + "always ?", 36);
        noTell("fact 1;".repeat(4) + "fact", 28);
        noTell("fact 1;".repeat(4) + "fact )", 28);
        noTell("if a then b;".repeat(8) + "if", 96);
        noTell("if a then b;".repeat(8) + "if then", 96);
        noTell("may a;".repeat(6) + "may", 36);
        noTell("may a;".repeat(6) + "may may", 36);
        noTell("may a;".repeat(6) + "mai", 36);
        noTell("may a;".repeat(5) + "may ;" + "may a;", 34);
    }

    private static void numberedAsTheyStand() {
        says("Each sort is numbered from 0 as they stand.");
        AsARule x = told("may a;always !f;if a then b;may b;fact c|d;if c then d;always !e|d;fact a;", 8);
        due("GUESS 0", x.worlds(4, 0), A);
        due("GUESS 1", x.worlds(4, 1), B);
        due("always 0", x.worlds(0, 0), ~F);
        due("always 1", x.worlds(0, 1), ~E | D);
        due("WHEN 0", x.worlds(1, 0), A);
        due("THEN 0", x.worlds(2, 0), B);
        due("WHEN 1", x.worlds(1, 1), C);
        due("THEN 1", x.worlds(2, 1), D);
        due("fact 0", x.worlds(3, 0), C | D);
        due("fact 1", x.worlds(3, 1), A);
    }

    private static void questions() {
        says("if SAYING then SAYING, or SAYING alone (WHEN is 1 then)");
        asked("if a then b", A, B);
        asked("if 0 then 0", 0, 0);
        asked("b", ALL, B);
        AsARule x = typed("if a then b");
        x.question();
        type(x, "c");
        due("alone after if", x.question(), 1);
        due("WHEN is 1", x.worlds(5, 0), ALL);
        due("THEN", x.worlds(5, 1), C);
        noQuestion("", 0);
        noQuestion("if", 2);
        noQuestion("if a", 4);
        noQuestion("if a then", 9);
        noQuestion("if a then b;", 11);
        noQuestion("if a then b then c", 12);
        noQuestion("if then b", 3);
        noQuestion("then b", 0);
        noQuestion("a then b", 2);
        noQuestion("a if", 2);
        noQuestion("if if a then b", 3);
        noQuestion("if a then if", 10);
        noQuestion("a;", 1);
        noQuestion(";", 0);
        noQuestion("always a", 0);
        noQuestion("fact a", 0);
        noQuestion("may a", 0);
    }

    // ---- tokens

    private static void words() {
        says("TOKENS are words of letters a .. z (always, if, then, fact, may, a .. f)");
        for (String word : WORDS) {
            String shorter = word.substring(0, word.length() - 1);
            String[] others = {shorter, word + "a", "a" + word, word + word, "z" + word.substring(1), word + "z", shorter + "z"};
            for (String other : others) {
                noTell("may a; " + other, 7);
                noQuestion("!" + other, 1);
            }
            noTell(word.toUpperCase() + " a;", 0);
            noTell(word.substring(0, 1).toUpperCase() + word.substring(1) + " a;", 0);
        }
        noTell("if athen b;", 3);
        noTell("if a thenb;", 5);
        noTell("ifa then b;", 0);
        noTell("maya;", 0);
        noTell("may a|bc;", 6);
        asked("if(a)then(b)", A, B);
        told("may!a;may(a);fact!a;always!a;", 4);
        for (String edge : new String[] {"`", "{", "@", "A", "F", "Z", "["}) {
            noQuestion("a|" + edge, 2);
        }
    }

    private static void figuresByThemselves() {
        says("0 and 1 (one figure is a TOKEN by itself)");
        for (String two : new String[] {"00", "01", "10", "11", "0a", "1a", "a0", "a1", "1then", "0if"}) {
            noQuestion(two, 1);
        }
        noQuestion("1 0", 2);
        told("may1;may0;fact1;always1;if1then0;", 5);
        asked("if1then0", ALL, 0);
        asked("0|1", ALL, ALL);
        asked("0&1", ALL, 0);
        for (char figure = '2'; figure <= '9'; figure++) {
            noQuestion("a|" + figure, 2);
        }
        noQuestion("/", 0);
        noQuestion(":", 0);
    }

    private static void signs() {
        says("and ; | & ! ( ) .");
        for (int sign = 0; sign < 256; sign++) {
            String text = "" + (char) sign;
            boolean stands = sign >= 'a' && sign <= 'f' || sign == '0' || sign == '1';
            boolean early = sign == ' ' || sign == '!' || sign == '(';
            AsARule x = typed(text);
            due("question of byte " + sign, x.question(), stands ? 1 : early ? -11 : -10);
            due("bytes after byte " + sign, x.count(5), stands ? 0 : 1);
            x = typed(text);
            due("tell of byte " + sign, x.tell(), sign == ' ' ? 0 : -10);
            boolean follows = sign == '|' || sign == '&';
            x = typed("a" + text + "b");
            boolean word = sign >= 'a' && sign <= 'z';
            due("question of a, byte " + sign + ", b", x.question(), follows ? 1 : word ? -10 : sign == ' ' ? -12 : -11);
        }
    }

    // ---- faults

    private static void faultOfFirstToken() {
        says("FAULT: the place of the first byte of the first TOKEN that can't stand there");
        noTell("a;", 0);
        noTell("then a;", 0);
        noTell("(always a);", 0);
        noTell("1;", 0);
        noTell("always always a;", 7);
        noTell("always if a then b;", 7);
        noTell("always a then b;", 9);
        noTell("if a;", 4);
        noTell("if a then b|;", 12);
        noTell("if a then b if;", 12);
        noTell("fact a|then;", 7);
        noTell("may a& may b;", 7);
        noTell("may a;always b;fact ;if", 20);
        noTell("may a;b", 6);
        noTell("   may a   b   ", 11);
        noTell("may a b ?", 6);
        noTell("may ) ?", 4);
        noTell("may a;) may ?;", 6);
        noQuestion("a b zz ?", 2);
    }

    private static void faultOfByte() {
        says("FAULT: of a byte that begins none (of the TOKENS)");
        for (int sign = 0; sign < 256; sign++) {
            boolean begins = sign >= 'a' && sign <= 'z' || " 01;|&!()".indexOf(sign) >= 0;
            if (!begins) {
                String s = "" + (char) sign;
                noTell(s, 0);
                noTell("may a;" + s, 6);
                noTell("may " + s + ";", 4);
                noTell("may a" + s + ";", 5);
                noQuestion("a&  " + s, 4);
                noQuestion(s + s, 0);
            }
        }
    }

    private static void faultOfWord() {
        says("FAULT: a word that is none of these, that TOKEN's");
        noTell("maybe a;", 0);
        noTell("  maybe a;", 2);
        noTell("may a;facts b;", 6);
        noTell("may abcdef;", 4);
        noTell("may g;", 4);
        noTell("may " + "f".repeat(396), 4);
        noTell("always a;fac", 9);
        noTell("always a;f", 9);
        noTell("if a the b;", 5);
        noQuestion("if a the", 5);
        noQuestion("z".repeat(400), 0);
        noQuestion("!(a|xyz)", 4);
    }

    private static void faultOfEnd() {
        says("FAULT: the text's length, if it ends too early");
        String[][] texts = {{"always", " ", "(", "a", "|", "!", "b", ")", ";"}, {"if", " ", "!", "a", " ", "then", " ", "1", ";"},
            {"fact", "!", "(", "c", ")", ";"}, {"may", " ", "0", "&", "f", " ", " ", ";"}};
        for (String[] tokens : texts) {
            String text = "";
            for (int n = 0; n + 1 < tokens.length; n++) {
                text += tokens[n];
                noTell(text, text.length());
                noTell(text + "   ", text.length() + 3);
                noTell("may a;" + text, text.length() + 6);
            }
        }
        noQuestion("", 0);
        noQuestion("     ", 5);
        noQuestion("if", 2);
        noQuestion("if a then ", 10);
        noQuestion("(a|b", 4);
        noQuestion("a&", 2);
        noQuestion("a|b|   ", 7);
    }

    // ---- the calls

    private static void typeCounts() {
        says("The lowest n (1 .. 8) bytes of v .. how many it has. BAD");
        for (int n = 1; n <= 8; n++) {
            AsARule x = new AsARule();
            due("type " + n, x.type(0x2020202020202020L, n), n);
            due("type " + n + " more", x.type(0x2020202020202020L, n), 2 * n);
            due("bytes", x.count(5), 2 * n);
        }
        for (int n : new int[] {Integer.MIN_VALUE, -8, -1, 0, 9, 16, 64, 400, 256 + 1, Integer.MAX_VALUE}) {
            AsARule x = typed("a");
            due("type " + n, x.type(0x6161616161616161L, n), AsARule.BAD);
            due("bytes", x.count(5), 1);
            due("the text is as before", x.question(), 1);
        }
    }

    private static void typeOrder() {
        says("The lowest n bytes of v, the highest of them first, come to THE TEXT");
        long v = 0x2121212121212161L;
        for (int n = 1; n <= 8; n++) {
            AsARule x = new AsARule();
            long above = n == 8 ? 0 : -1L << 8 * n;
            due("type " + n, x.type(v & ~above | 0x3F3F3F3F3F3F3F3FL & above, n), n);
            due("question of ! and a, " + n, x.question(), 1);
            due("THEN", x.worlds(5, 1), n % 2 == 1 ? A : ~A);
        }
        AsARule x = new AsARule();
        due("all bytes 255", x.type(-1L, 8), 8);
        due("none is a TOKEN", x.question(), -10);
        x = new AsARule();
        x.type(0x617CL, 2);
        x.type(-256L | 'b', 1);
        due("later bytes come behind", x.question(), 1);
        due("THEN", x.worlds(5, 1), A | B);
    }

    private static void typeFull() {
        says("FULL (400 bytes at most)");
        for (int n = 1; n <= 8; n++) {
            AsARule x = typed(" ".repeat(400 - n));
            due(n + " are left, " + n + " come", x.type(0x2020202020202061L, n), 400);
            due("they came", x.question(), 1);
            x = typed("!" + " ".repeat(400 - n));
            due(n - 1 + " are left, " + n + " do not come", x.type(0x6161616161616161L, n), AsARule.FULL);
            due("none of them came", x.count(5), 401 - n);
            due("none of them came", x.question(), -10 - (401 - n));
            for (int k = 1; k < n; k++) {
                due("one by one they come", x.type(k == 1 ? 'a' : ' ', 1), 401 - n + k);
            }
            due("FULL then", x.type('a', 1), AsARule.FULL);
            due("BAD is first", x.type('a', 0), AsARule.BAD);
            due("BAD is first", x.type('a', 9), AsARule.BAD);
            due("the text is as before", x.question(), n == 1 ? -410 : 1);
        }
    }

    private static void clear() {
        says("THE TEXT is empty: how many bytes it had.");
        AsARule x = new AsARule();
        due("empty", x.clear(), 0);
        type(x, " ".repeat(400));
        due("full", x.clear(), 400);
        due("empty again", x.clear(), 0);
        due("bytes", x.count(5), 0);
        due("no longer FULL", x.type('b', 1), 1);
        due("what was before is gone", x.question(), 1);
        due("THEN", x.worlds(5, 1), B);
        due("empty after question", x.clear(), 0);
        type(x, "may a;");
        x.tell();
        due("empty after tell", x.clear(), 0);
        due("ITEMS stay", x.count(3), 1);
        due("QUESTION stays", x.worlds(5, 1), B);
    }

    private static void tellAnew() {
        says("THE TEXT tells all ITEMS anew, and is empty then (the QUESTION stays): how many.");
        AsARule x = told("always a;".repeat(4) + "if a then b;".repeat(8) + "fact a;".repeat(4) + "may a;".repeat(6), 22);
        type(x, "if c then d");
        x.question();
        due("tell of an empty text", x.tell(), 0);
        for (int sort = 0; sort < 4; sort++) {
            due("count " + sort, x.count(sort), 0);
        }
        due("all are THERE again", x.there(0), ALL);
        due("GROUND is all again", x.there(1), ALL);
        due("no RULE is BROKEN", x.breaks(1), 0);
        due("one END", x.ends(-1), 1);
        due("WHEN stays", x.worlds(5, 0), C);
        due("THEN stays", x.worlds(5, 1), D);
        type(x, "may e;");
        due("tell", x.tell(), 1);
        due("GUESS 0", x.worlds(4, 0), E);
        due("GUESS 1 is gone", x.worlds(4, 1), 0);
    }

    private static void tellFault() {
        says("tell: -10 less FAULT: nothing changes.");
        AsARule x = told("always a;", 1);
        type(x, "always b;if c then d;fact e;may f");
        due("ends too early", x.tell(), -10 - 33);
        due("always stays", x.worlds(0, 0), A);
        due("always 1", x.worlds(0, 1), 0);
        due("THERE stays", x.there(0), A);
        due("no RULE", x.count(1), 0);
        due("no fact", x.count(2), 0);
        due("no GUESS", x.count(3), 0);
        due("the rest of the text", x.type(';', 1), 34);
        due("what had been typed stands yet", x.tell(), 4);
        due("always", x.worlds(0, 0), B);
        type(x, "fact a;fact a;fact a;fact");
        due("ends too early", x.tell(), -10 - 25);
        x.clear();
        type(x, "may c;");
        due("nothing of a refused text comes later", x.tell(), 1);
        due("no fact", x.count(2), 0);
        due("GUESS 0", x.worlds(4, 0), C);
        due("a FAULT at 0 is -10", typed("?").tell(), -10);
    }

    private static void questionFault() {
        says("question: -10 less FAULT: nothing changes.");
        AsARule x = typed("if a then b");
        due("question", x.question(), 1);
        type(x, "if c");
        due("ends too early", x.question(), -14);
        due("WHEN stays", x.worlds(5, 0), A);
        due("THEN stays", x.worlds(5, 1), B);
        type(x, " then d;");
        due("; can't stand", x.question(), -10 - 11);
        due("WHEN stays", x.worlds(5, 0), A);
        due("THEN stays", x.worlds(5, 1), B);
        due("what is no question is told", x.tell(), 1);
        due("WHEN of the RULE", x.worlds(1, 0), C);
        type(x, "d");
        due("what is no text is asked", x.tell(), -10);
        due("what is no text is asked", x.question(), 1);
        due("RULE stays", x.count(1), 1);
    }

    private static void faultFarthest() {
        says("-10 less FAULT (0 .. 400)");
        noTell("may " + " ".repeat(396), 400);
        noTell(" ".repeat(399) + ";", 399);
        noTell(" ".repeat(399) + "a", 399);
        noTell("may a" + "&a".repeat(197) + "&", 400);
        noQuestion(" ".repeat(400), 400);
        noQuestion("a" + "|a".repeat(199) + "|", 400);
        noQuestion(" a" + "|a".repeat(198) + " a", 399);
        noQuestion("!", 1);
    }

    private static void worldsOfSorts() {
        says("always i (sort = 0), WHEN (1), THEN (2) of RULE i, fact i (3), GUESS i (4), the QUESTION's (5, i = 0, 1). BAD: 0.");
        AsARule x = told("always a;".repeat(4) + "if b then c;".repeat(8) + "fact d;".repeat(4) + "may e;".repeat(6), 22);
        long[] worlds = {A, B, C, D, E, ALL};
        int[] most = {4, 8, 8, 4, 6, 2};
        for (int sort = 0; sort < 6; sort++) {
            for (int i = 0; i < most[sort]; i++) {
                due("worlds " + sort + ", " + i, x.worlds(sort, i), worlds[sort]);
            }
            for (int i : new int[] {Integer.MIN_VALUE, -64, -1, most[sort], most[sort] + 1, 64, 256, Integer.MAX_VALUE}) {
                due("worlds " + sort + ", " + i, x.worlds(sort, i), 0);
            }
        }
        for (int sort : new int[] {Integer.MIN_VALUE, -1, 6, 7, 256, Integer.MAX_VALUE}) {
            due("worlds " + sort + ", 0", x.worlds(sort, 0), 0);
            due("worlds " + sort + ", 1", x.worlds(sort, 1), 0);
        }
        for (int sort = 0; sort < 5; sort++) {
            due("of none, worlds " + sort + ", 0", new AsARule().worlds(sort, 0), 0);
        }
    }
}
