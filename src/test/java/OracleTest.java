import java.util.ArrayList;
import java.util.Arrays;
import java.util.List;
import java.util.Random;
import java.util.TreeSet;

/**
 * Random runs against a second, slow model that is written from the document alone and works otherwise than
 * the class does: sayings are judged world by world, faults by a stack, ends by trying every order.
 */
public final class OracleTest {
    private static final int RUNS = 12000;
    private static final int STEPS = 5;
    /** What a run is mostly about. */
    private static final int ANY = 0, GRADES = 1, ENDS = 2, WHYS = 3, DOUBTS = 4, THEMES = 4;
    private static final int CALLS_MOST = 512;
    private static int wrong = 0;
    private static int run = 0;
    private static int theme = ANY;
    private static int calls = 0;
    private static String lastText = "";

    public static void main(String[] args) {
        for (run = 0; run < RUNS && wrong < 20; run++) {
            oneRun(new Random(run));
        }
        for (run = 0; run < RUNS && wrong < 20; run++) {
            oneBrokenText(new Random(1000000 + run));
        }
        System.out.println(wrong == 0 ? "class and model agree" : wrong + " answers differ");
        if (wrong != 0) {
            System.exit(1);
        }
    }

    /** Each answer that is looked at is one call. */
    private static void due(String what, long got, long want) {
        calls++;
        if (got != want) {
            wrong++;
            System.out.println("run " + run + ": " + what + " answered " + got + ", due is " + want + " after " + lastText);
        }
    }

    private static void oneRun(Random random) {
        AsARule x = new AsARule();
        Model m = new Model();
        calls = 0;
        theme = run % 2 == 0 ? ANY : 1 + run / 2 % THEMES;
        int steps = theme == ANY ? random.nextInt(STEPS + 1) : theme == DOUBTS ? 3 * STEPS : 1;
        if (theme != ANY) {
            tellBoth(random, x, m);
            askBoth(random, x, m);
        }
        for (int step = 0; step < steps; step++) {
            oneStep(random, x, m);
        }
        compare(random, x, m);
        if (calls > CALLS_MOST) {
            wrong++;
            System.out.println("run " + run + " made " + calls + " calls of one object");
        }
    }

    private static void oneStep(Random random, AsARule x, Model m) {
        switch (random.nextInt(theme == DOUBTS ? 24 : 8)) {
            case 0:
                due("forget", x.forget(), m.forget());
                break;
            case 1:
            case 2:
                askBoth(random, x, m);
                break;
            case 3:
            case 4:
                learnBoth(random, x, m);
                break;
            case 5:
            case 6:
            case 7:
                tellBoth(random, x, m);
                askBoth(random, x, m);
                break;
            default:
                askBoth(random, x, m);
                learnBoth(random, x, m);
                break;
        }
    }

    private static void learnBoth(Random random, AsARule x, Model m) {
        int f = 1 + random.nextInt(20);
        due("learn", x.learn(f), m.learn(f));
    }

    private static void type(AsARule x, String text) {
        x.clear();
        calls++;
        lastText = text;
        for (int i = 0; i < text.length(); i += 8) {
            int n = Math.min(8, text.length() - i);
            long v = 0;
            for (int k = 0; k < n; k++) {
                v = v << 8 | text.charAt(i + k);
            }
            due("type", x.type(v, n), i + n);
        }
    }

    private static void tellBoth(Random random, AsARule x, Model m) {
        StringBuilder text = new StringBuilder();
        List<Item> items = new ArrayList<>();
        int[] most = {4, 8, 4, 6};
        int wanted = random.nextInt(theme == ANY ? 14 : 20);
        int depth = random.nextInt(3);
        for (int i = 0; i < wanted; i++) {
            Item item = theme == ANY ? anyItem(random, depth) : themeItem(random);
            if (most[item.sort] == 0) {
                continue;
            }
            String added = item.text(random);
            if (text.length() + added.length() > 400) {
                break;
            }
            most[item.sort]--;
            text.append(added);
            items.add(item);
        }
        type(x, text.toString());
        m.items = items;
        m.settle();
        due("tell", x.tell(), m.items.size());
        due("bytes", x.count(5), 0);
    }

    private static Item anyItem(Random random, int depth) {
        int sort = random.nextInt(3) == 0 ? random.nextInt(4) : 1;
        return new Item(sort, Node.random(random, depth), Node.random(random, depth));
    }

    /** Items of few letters that bear on one another, so that there are many GRADES, ENDS or WHYS. */
    private static Item themeItem(Random random) {
        int dice = random.nextInt(20);
        switch (theme) {
            case GRADES:
                return dice == 0 ? new Item(0, null, oneOf(random, "bcde"))
                    : new Item(1, allOf(random, "bcdef", random.nextInt(4)), dice < 15 ? literal(random, "a") : literal(random, "ab"));
            case ENDS:
                return dice < 3 ? new Item(2, null, literal(random, "ab")) : dice == 3 ? new Item(0, null, oneOf(random, "bcd"))
                    : new Item(1, dice < 12 ? new Node('1', null, null) : literal(random, "abc"),
                        dice % 3 == 0 ? oneOf(random, "abcd") : literal(random, "abcd"));
            case WHYS:
                return dice < 5 ? new Item(0, null, new Node('|', oneOf(random, "abcd"), literal(random, "ef")))
                    : dice == 5 ? new Item(2, null, oneOf(random, "abef")) : dice == 6 ? new Item(1, literal(random, "a"), literal(random, "e"))
                    : new Item(3, null, dice < 17 ? allOf(random, "abcdef", 1) : literal(random, "abcdef"));
            default:
                return dice == 0 ? new Item(0, null, oneOf(random, "abcdef"))
                    : new Item(1, allOf(random, "abcd", random.nextInt(3)), oneOf(random, "abcdef"));
        }
    }

    private static Node literal(Random random, String letters) {
        Node letter = new Node(letters.charAt(random.nextInt(letters.length())), null, null);
        return random.nextBoolean() ? letter : new Node('!', letter, null);
    }

    private static Node oneOf(Random random, String letters) {
        return new Node('|', literal(random, letters), literal(random, letters));
    }

    /** Letters with & between; 1, if there are none. */
    private static Node allOf(Random random, String letters, int n) {
        Node all = new Node('1', null, null);
        for (int i = 0; i < n; i++) {
            Node letter = new Node(letters.charAt(random.nextInt(letters.length())), null, null);
            all = i == 0 ? letter : new Node('&', all, letter);
        }
        return all;
    }

    private static void askBoth(Random random, AsARule x, Model m) {
        boolean alone = random.nextBoolean();
        boolean plain = theme != ANY && random.nextInt(4) != 0;
        Node when = alone ? new Node('1', null, null) : plain ? allOf(random, "bcdef", 1 + random.nextInt(3)) : Node.random(random, 2);
        Node then = !plain ? Node.random(random, 2) : theme == WHYS ? whyThen(random)
            : literal(random, theme == DOUBTS ? "abcdef" : "ab");
        type(x, (alone ? "" : "if " + when.text(random) + " then ") + then.text(random));
        due("question", x.question(), 1);
        m.when = when;
        m.then = then;
    }

    private static Node whyThen(Random random) {
        Node first = random.nextBoolean() ? allOf(random, "abcdef", 2) : literal(random, "abcdef");
        return new Node("&|".charAt(random.nextInt(2)), first, random.nextBoolean() ? allOf(random, "abcd", 2) : literal(random, "abcdef"));
    }

    private static void compare(Random random, AsARule x, Model m) {
        for (int n = 0; n < 16; n++) {
            int w = random.nextInt(66) - 1;
            boolean world = w >= 0 && w < 64;
            due("gradeOf " + w, x.gradeOf(w), world ? m.gradeOf(w) : AsARule.BAD);
            due("breaks " + w, x.breaks(w), world ? m.breaks(w) : AsARule.BAD);
            due("doubt " + w, x.doubt(w), world ? m.doubts[w] : AsARule.BAD);
        }
        for (int sort = 0; sort < 4; sort++) {
            due("count " + sort, x.count(sort), m.sort(sort).size());
            for (int i = -1; i < 9; i++) {
                Item item = i >= 0 && i < m.sort(sort).size() ? m.sort(sort).get(i) : null;
                int asked = new int[] {0, 2, 3, 4}[sort];
                due("worlds", x.worlds(asked, i), item == null ? 0 : m.set(item.then));
                if (sort == 1) {
                    due("worlds", x.worlds(1, i), item == null ? 0 : m.set(item.when));
                    due("grade " + i, x.grade(i), item == null ? AsARule.BAD : m.grades()[i]);
                    weigh(x, m, i, item, random.nextInt(4));
                }
            }
        }
        due("when", x.worlds(5, 0), m.set(m.when));
        due("then", x.worlds(5, 1), m.set(m.then));
        for (int how = 0; how < 4; how++) {
            due("so " + how, x.so(how), m.so(how) ? 1 : 0);
        }
        due("there", x.there(0), m.bits(m.there()));
        due("ground", x.there(1), m.bits(m.ground()));
        due("grade 0", x.there(2), m.bits(m.ofGrade0()));
        due("best", x.best(0), m.bits(m.best(0)));
        due("best", x.best(1), m.bits(m.best(1)));
        due("quarrel", x.count(4), m.quarrel() ? 1 : 0);
        due("there", x.count(6), m.there().size());
        due("believed", x.believed(), m.believed());
        compareEnds(x, m);
        List<Integer> whys = m.whys();
        due("whys", x.why(-1), whys.size());
        for (int k = 0; k < whys.size(); k++) {
            due("why " + k, x.why(k), whys.get(k));
        }
        due("no more whys", x.why(whys.size()), AsARule.BAD);
    }

    private static void weigh(AsARule x, Model m, int i, Item rule, int kind) {
        int[] bodies = {1, 11, 101, 1011};
        long before = x.trace();
        due("weight " + kind + ", " + i, x.weight(kind, i), rule == null ? AsARule.NO : m.weight(kind, i, rule));
        due("trace", x.trace() - before, rule == null ? 0 : bodies[kind]);
        calls++;
    }

    private static void compareEnds(AsARule x, Model m) {
        TreeSet<Integer> ends = m.ends();
        due("ends", x.ends(-1), ends.size());
        int k = 0;
        int held = 0;
        for (int set : ends) {
            List<Integer> left = m.left(set);
            due("end " + k, x.ends(k), set);
            due("leaves " + k, x.leaves(k), m.bits(left));
            held += m.allSo(left, m.then) ? 1 : 0;
            k++;
        }
        due("no more ends", x.ends(k), AsARule.BAD);
        due("no more leaves", x.leaves(k), 0);
        due("held", x.held(), held);
    }

    /** A text that is often not as it should be: its fault is found by another way than the class's. */
    private static void oneBrokenText(Random random) {
        StringBuilder text = new StringBuilder();
        String[] parts = {"a", "b", "f", "g", "0", "1", "2", "!", "!", "(", "(", ")", ")", "&", "|", " ", " ", ";", ";",
            "if ", "if ", " then ", "always ", "fact ", "may ", "ab", "ifa", "?", "\n", "" + (char) 200};
        int pieces = random.nextInt(30);
        for (int i = 0; i < pieces; i++) {
            boolean wild = random.nextInt(15) == 0;
            String part = wild ? parts[random.nextInt(parts.length)]
                : random.nextInt(6) == 0 ? "" : new Item(random.nextInt(4), Node.random(random, 3), Node.random(random, 1)).text(random);
            if (random.nextInt(25) == 0 && !part.isEmpty()) {
                int cut = random.nextInt(part.length());
                part = part.substring(0, cut) + parts[random.nextInt(parts.length)] + part.substring(cut + random.nextInt(2));
            }
            if (random.nextInt(8) == 0) {
                part = "may " + repeated(random, 5 + random.nextInt(5)) + part;
            }
            if (text.length() + part.length() <= 400) {
                text.append(part);
            }
        }
        AsARule x = new AsARule();
        type(x, text.toString());
        Faults faults = new Faults(text.toString());
        int fault = faults.ofItems();
        int answer = x.tell();
        due("tell", answer, fault >= 0 ? -10 - fault : faults.items);
        String asked = text.indexOf(";") >= 0 && random.nextInt(4) != 0 ? text.substring(0, text.indexOf(";")) : text.toString();
        if (random.nextBoolean()) {
            asked = asked.replace("always", "").replace("may", "").replace("fact", "");
        }
        type(x, asked);
        fault = new Faults(asked).ofQuestion();
        due("question", x.question(), fault >= 0 ? -10 - fault : 1);
    }

    private static String repeated(Random random, int n) {
        StringBuilder all = new StringBuilder();
        for (int i = 0; i < n; i++) {
            all.append(random.nextInt(4) == 0 ? "(" : "!");
        }
        return all.toString();
    }

    /** A SAYING as a tree. */
    private static final class Node {
        final char sign;
        final Node left, right;

        Node(char sign, Node left, Node right) {
            this.sign = sign;
            this.left = left;
            this.right = right;
        }

        static Node random(Random random, int depth) {
            if (depth == 0 || random.nextInt(4) == 0) {
                return new Node("abcdefabcdefabcdef01".charAt(random.nextInt(20)), null, null);
            }
            char sign = "!&|&|".charAt(random.nextInt(5));
            return new Node(sign, random(random, depth - 1), sign == '!' ? null : random(random, depth - 1));
        }

        boolean so(int world) {
            switch (sign) {
                case '0':
                    return false;
                case '1':
                    return true;
                case '!':
                    return !left.so(world);
                case '&':
                    return left.so(world) && right.so(world);
                case '|':
                    return left.so(world) || right.so(world);
                default:
                    return (world >> sign - 'a') % 2 == 1;
            }
        }

        String text(Random random) {
            String blank = random.nextInt(6) == 0 ? " " : "";
            switch (sign) {
                case '!':
                    return "!" + blank + left.closed(random, left.sign == '&' || left.sign == '|');
                case '&':
                    return left.closed(random, left.sign == '|') + blank + "&" + right.closed(random, right.sign == '|');
                case '|':
                    return left.text(random) + "|" + blank + right.text(random);
                default:
                    return sign + blank;
            }
        }

        private String closed(Random random, boolean needed) {
            return needed || random.nextInt(8) == 0 ? "(" + text(random) + ")" : text(random);
        }
    }

    private static final class Item {
        final int sort;
        final Node when, then;

        Item(int sort, Node when, Node then) {
            this.sort = sort;
            this.when = when;
            this.then = then;
        }

        String text(Random random) {
            String start = sort == 1 ? "if " + when.text(random) + " then " : new String[] {"always ", "", "fact ", "may "}[sort];
            return start + then.text(random) + ";";
        }
    }

    /** Finds FAULT with a stack of what is open instead of methods that call one another; -1: none. */
    private static final class Faults {
        private final List<String> tokens = new ArrayList<>();
        private final List<Integer> places = new ArrayList<>();
        private final int length;
        private int at = 0;
        int items = 0;

        Faults(String text) {
            length = text.length();
            int i = 0;
            while (i < length) {
                int from = i++;
                if (text.charAt(from) == ' ') {
                    continue;
                }
                if (text.charAt(from) >= 'a' && text.charAt(from) <= 'z') {
                    while (i < length && text.charAt(i) >= 'a' && text.charAt(i) <= 'z') {
                        i++;
                    }
                }
                tokens.add(text.substring(from, i));
                places.add(from);
            }
        }

        private String token() {
            return at < tokens.size() ? tokens.get(at) : "";
        }

        private int place() {
            return at < tokens.size() ? places.get(at) : length;
        }

        /** Goes over a SAYING as far as one can go; whether it could end there. */
        private boolean saying() {
            StringBuilder open = new StringBuilder();
            boolean wantsOne = true;
            while (at < tokens.size()) {
                String t = token();
                if (wantsOne && (t.equals("!") || t.equals("("))) {
                    if (open.length() == 8) {
                        return false;
                    }
                    open.append(t);
                } else if (wantsOne && t.length() == 1 && "abcdef01".contains(t)) {
                    wantsOne = false;
                    dropNots(open);
                } else if (!wantsOne && (t.equals("&") || t.equals("|"))) {
                    wantsOne = true;
                } else if (!wantsOne && t.equals(")") && open.length() > 0) {
                    open.setLength(open.length() - 1);
                    dropNots(open);
                } else {
                    break;
                }
                at++;
            }
            return !wantsOne && open.length() == 0;
        }

        private static void dropNots(StringBuilder open) {
            while (open.length() > 0 && open.charAt(open.length() - 1) == '!') {
                open.setLength(open.length() - 1);
            }
        }

        private boolean word(String due) {
            boolean is = token().equals(due);
            at += is ? 1 : 0;
            return is;
        }

        int ofItems() {
            int[] left = {4, 8, 4, 6};
            while (at < tokens.size()) {
                int sort = Arrays.asList("always", "if", "fact", "may").indexOf(token());
                if (sort < 0 || left[sort]-- == 0) {
                    return place();
                }
                at++;
                boolean good = saying() && (sort != 1 || word("then") && saying()) && word(";");
                if (!good) {
                    return place();
                }
                items++;
            }
            return -1;
        }

        int ofQuestion() {
            boolean good = !word("if") || saying() && word("then");
            return good && saying() && at == tokens.size() ? -1 : place();
        }
    }

    /** What the document says, in lists of WORLDS. */
    private static final class Model {
        List<Item> items = new ArrayList<>();
        Node when = new Node('1', null, null), then = when;
        int[] doubts = new int[64];
        private int[] grades;

        Model() {
            settle();
        }

        void settle() {
            grades = gradesOf(sort(1));
            forget();
        }

        List<Item> sort(int sort) {
            List<Item> found = new ArrayList<>();
            for (Item item : items) {
                if (item.sort == sort) {
                    found.add(item);
                }
            }
            return found;
        }

        long bits(List<Integer> worlds) {
            long bits = 0;
            for (int w : worlds) {
                bits |= 1L << w;
            }
            return bits;
        }

        long set(Node saying) {
            long bits = 0;
            for (int w = 0; w < 64; w++) {
                bits |= saying.so(w) ? 1L << w : 0;
            }
            return bits;
        }

        boolean isThere(int w) {
            for (Item item : sort(0)) {
                if (!item.then.so(w)) {
                    return false;
                }
            }
            return true;
        }

        List<Integer> there() {
            List<Integer> found = new ArrayList<>();
            for (int w = 0; w < 64; w++) {
                if (isThere(w)) {
                    found.add(w);
                }
            }
            return found;
        }

        List<Integer> having(List<Integer> worlds, Node saying, boolean so) {
            List<Integer> found = new ArrayList<>();
            for (int w : worlds) {
                if (saying.so(w) == so) {
                    found.add(w);
                }
            }
            return found;
        }

        boolean allSo(List<Integer> worlds, Node saying) {
            return having(worlds, saying, false).isEmpty();
        }

        List<Integer> ground() {
            List<Integer> worlds = there();
            for (Item fact : sort(2)) {
                worlds = having(worlds, fact.then, true);
            }
            return worlds;
        }

        static boolean breaks(int w, Item rule) {
            return rule.when.so(w) && !rule.then.so(w);
        }

        boolean bear(List<Item> rules, Item one) {
            for (int w : there()) {
                boolean good = one.when.so(w) && one.then.so(w);
                for (Item rule : rules) {
                    good = good && !breaks(w, rule);
                }
                if (good) {
                    return true;
                }
            }
            return false;
        }

        int[] gradesOf(List<Item> rules) {
            int[] found = new int[rules.size()];
            Arrays.fill(found, AsARule.NONE);
            List<Item> left = new ArrayList<>(rules);
            for (int grade = 0; !left.isEmpty(); grade++) {
                List<Item> borne = new ArrayList<>();
                for (Item rule : left) {
                    if (bear(left, rule)) {
                        borne.add(rule);
                        found[rules.indexOf(rule)] = grade;
                    }
                }
                if (borne.isEmpty()) {
                    break;
                }
                left.removeAll(borne);
            }
            return found;
        }

        int[] grades() {
            return grades;
        }

        static boolean hasNone(int[] grades) {
            for (int g : grades) {
                if (g == AsARule.NONE) {
                    return true;
                }
            }
            return false;
        }

        boolean quarrel() {
            return hasNone(grades);
        }

        int breaks(int w) {
            int set = 0;
            List<Item> rules = sort(1);
            for (int r = 0; r < rules.size(); r++) {
                set += breaks(w, rules.get(r)) ? 1 << r : 0;
            }
            return set;
        }

        /** How many RULES of each GRADE a WORLD BREAKS, the greatest first, those without one before them. */
        int[] counts(int w) {
            int[] counts = new int[9];
            List<Item> rules = sort(1);
            for (int r = 0; r < rules.size(); r++) {
                if (breaks(w, rules.get(r))) {
                    counts[grades[r] == AsARule.NONE ? 0 : 8 - grades[r]]++;
                }
            }
            return counts;
        }

        int gradeOf(int w) {
            if (!isThere(w)) {
                return AsARule.NONE;
            }
            int[] counts = counts(w);
            for (int i = 0; i < 9; i++) {
                if (counts[i] > 0) {
                    return 9 - i;
                }
            }
            return 0;
        }

        List<Integer> ofGrade0() {
            List<Integer> found = new ArrayList<>();
            for (int w : there()) {
                if (gradeOf(w) == 0) {
                    found.add(w);
                }
            }
            return found;
        }

        List<Integer> best(int how) {
            List<Integer> with = having(there(), when, true);
            List<Integer> found = new ArrayList<>();
            int[] least = null;
            for (int w : with) {
                int[] rank = how == 0 ? new int[] {gradeOf(w)} : counts(w);
                int order = least == null ? -1 : Arrays.compare(rank, least);
                if (order < 0) {
                    found.clear();
                    least = rank;
                }
                if (order <= 0) {
                    found.add(w);
                }
            }
            return found;
        }

        boolean so(int how) {
            if (how == 2) {
                List<Item> more = sort(1);
                more.add(new Item(1, when, new Node('!', then, null)));
                return quarrel() || hasNone(gradesOf(more)) || having(there(), when, true).isEmpty();
            }
            return allSo(how == 3 ? having(there(), when, true) : best(how), then);
        }

        /** WORLDS left by a set, whatever the order was. */
        List<Integer> left(int set) {
            List<Integer> worlds = ground();
            List<Item> rules = sort(1);
            for (int r = 0; r < rules.size(); r++) {
                if ((set >> r & 1) == 1) {
                    worlds = having(worlds, rules.get(r).then, true);
                }
            }
            return worlds;
        }

        TreeSet<Integer> ends() {
            TreeSet<Integer> found = new TreeSet<>();
            walk(0, new TreeSet<>(), found);
            return found;
        }

        private void walk(int set, TreeSet<Integer> seen, TreeSet<Integer> found) {
            if (!seen.add(set)) {
                return;
            }
            List<Integer> left = left(set);
            List<Item> rules = sort(1);
            boolean end = !left.isEmpty();
            for (int r = 0; r < rules.size(); r++) {
                if ((set >> r & 1) == 0 && allSo(left, rules.get(r).when)) {
                    end = end && having(left, rules.get(r).then, true).isEmpty();
                    walk(set | 1 << r, seen, found);
                }
            }
            if (end) {
                found.add(set);
            }
        }

        private boolean tells(int set) {
            List<Integer> worlds = ground();
            List<Item> guesses = sort(3);
            for (int g = 0; g < guesses.size(); g++) {
                if ((set >> g & 1) == 1) {
                    worlds = having(worlds, guesses.get(g).then, true);
                }
            }
            return !worlds.isEmpty() && allSo(worlds, then);
        }

        List<Integer> whys() {
            List<Integer> found = new ArrayList<>();
            for (int set = 0; set < 1 << sort(3).size(); set++) {
                boolean good = tells(set);
                for (int part = 0; part < set; part++) {
                    good = good && !((part & set) == part && tells(part));
                }
                if (good) {
                    found.add(set);
                }
            }
            found.sort((p, q) -> Integer.bitCount(p) != Integer.bitCount(q)
                ? Integer.bitCount(p) - Integer.bitCount(q) : p - q);
            return found;
        }

        int least(List<Integer> worlds) {
            int least = 1000;
            for (int w : worlds) {
                least = Math.min(least, doubts[w]);
            }
            return least;
        }

        int learn(int f) {
            List<Integer> with = having(there(), then, true);
            List<Integer> without = having(there(), then, false);
            if (with.isEmpty() || without.isEmpty()) {
                return AsARule.STATE;
            }
            int leastWith = least(with);
            int leastWithout = least(without);
            for (int w : there()) {
                doubts[w] = then.so(w) ? doubts[w] - leastWith : Math.min(99, doubts[w] - leastWithout + f);
            }
            return zeros();
        }

        private int zeros() {
            int found = 0;
            for (int d : doubts) {
                found += d == 0 ? 1 : 0;
            }
            return found;
        }

        int believed() {
            List<Integer> with = having(there(), then, true);
            List<Integer> without = having(there(), then, false);
            return without.isEmpty() ? 99 : with.isEmpty() ? -99 : least(without) - least(with);
        }

        int forget() {
            for (int w = 0; w < 64; w++) {
                doubts[w] = gradeOf(w);
            }
            return zeros();
        }

        int weight(int kind, int i, Item rule) {
            int saying = having(there(), rule.when, true).size();
            int ruled = saying + (grades[i] == AsARule.NONE ? 8 : grades[i]);
            int broken = 0;
            for (int w : there()) {
                broken += breaks(w, rule) ? 1 : 0;
            }
            return new int[] {saying, ruled, saying / 2, 2 * ruled - broken}[kind];
        }
    }
}
