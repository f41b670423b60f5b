/**
 * What is so as a rule: always, rules, facts and guesses told by a text, and what follows from them.
 *
 * A set of WORLDS is one long (bit w: WORLD w is in it), a set of RULES or GUESSES one int. All rows
 * are made once, with the object, and used again: no call makes an object.
 */
public final class AsARule {
    public static final int BAD = -1, STATE = -2, FULL = -3, NONE = -9, NO = -1000;

    private static final int TEXT_MOST = 400;
    private static final int ALWAYS_MOST = 4;
    private static final int RULES_MOST = 8;
    private static final int FACTS_MOST = 4;
    private static final int GUESSES_MOST = 6;
    private static final int OPEN_MOST = 8;
    private static final int RULE_SETS = 256;
    private static final int GUESS_SETS = 64;
    private static final int WORLDS = 64;
    private static final long ALL = -1L;
    /** What a RULE without a GRADE counts as. */
    private static final int UNGRADED = 8;
    private static final int DOUBT_MOST = 99;
    private static final int FIRMNESS_MOST = 20;

    private final Text text = new Text();
    private final Reader reader = new Reader();
    /** The ITEMS that stand, and those that a text is read into, so that a FAULT leaves the first as they are. */
    private Items items = new Items();
    private Items spare = new Items();
    /** RULES and the one more that EVER asks about. */
    private final Rules trial = new Rules(RULES_MOST + 1);
    private final Ends ended = new Ends();
    private final Doubts doubts = new Doubts();
    private long when = ALL;
    private long then = ALL;
    private long asked = 0;

    public AsARule() {
        settle();
    }

    // ---- texts

    public int type(long v, int n) {
        if (n < 1 || n > 8) {
            return BAD;
        }
        return text.put(v, n) ? text.size() : FULL;
    }

    public int clear() {
        return text.wipe();
    }

    public int tell() {
        reader.start(text);
        reader.readItems(spare);
        if (reader.isWrong()) {
            return faultAnswer();
        }
        Items read = spare;
        spare = items;
        items = read;
        settle();
        text.wipe();
        return items.size();
    }

    public int question() {
        reader.start(text);
        reader.readQuestion();
        if (reader.isWrong()) {
            return faultAnswer();
        }
        when = reader.when();
        then = reader.then();
        text.wipe();
        return 1;
    }

    public long worlds(int sort, int i) {
        switch (sort) {
            case 0:
                return items.always.get(i);
            case 1:
                return items.rules.whens.get(i);
            case 2:
                return items.rules.thens.get(i);
            case 3:
                return items.facts.get(i);
            case 4:
                return items.guesses.get(i);
            case 5:
                return i == 0 ? when : i == 1 ? then : 0L;
            default:
                return 0L;
        }
    }

    // ---- grades

    public long there(int what) {
        switch (what) {
            case 0:
                return items.worldsThere();
            case 1:
                return items.worldsOfGround();
            case 2:
                return items.unbroken();
            default:
                return 0L;
        }
    }

    public int grade(int rule) {
        return items.rules.has(rule) ? items.rules.gradeAt(rule) : BAD;
    }

    public int gradeOf(int world) {
        return isWorld(world) ? items.rank(world) : BAD;
    }

    public int breaks(int world) {
        return isWorld(world) ? items.rules.brokenIn(world) : BAD;
    }

    public int so(int how) {
        switch (how) {
            case 0:
            case 1:
                return truth(allIn(items.least(when, how), then));
            case 2:
                return truth(isEver());
            case 3:
                return truth(allIn(items.worldsThere() & when, then));
            default:
                return BAD;
        }
    }

    public long best(int how) {
        return how == 0 || how == 1 ? items.least(when, how) : 0L;
    }

    // ---- ends, whys

    public int ends(int k) {
        if (k == -1) {
            return ended.size();
        }
        return ended.has(k) ? ended.setAt(k) : BAD;
    }

    public long leaves(int k) {
        return ended.leftAt(k);
    }

    public int held() {
        return ended.holding(then);
    }

    public int why(int k) {
        if (k < -1) {
            return BAD;
        }
        int found = 0;
        for (int size = 0; size <= GUESSES_MOST; size++) {
            for (int set = 0; set < GUESS_SETS; set++) {
                if (Integer.bitCount(set) == size && items.tellsWhy(set, then)) {
                    if (found == k) {
                        return set;
                    }
                    found++;
                }
            }
        }
        return k == -1 ? found : BAD;
    }

    // ---- doubts

    public int doubt(int world) {
        return isWorld(world) ? doubts.at(world) : BAD;
    }

    public int learn(int f) {
        if (f < 1 || f > FIRMNESS_MOST) {
            return BAD;
        }
        long with = items.worldsThere() & then;
        long without = items.worldsThere() & ~then;
        if (with == 0 || without == 0) {
            return STATE;
        }
        doubts.shift(with, -doubts.least(with));
        doubts.shift(without, f - doubts.least(without));
        return doubts.free();
    }

    public int believed() {
        long with = items.worldsThere() & then;
        long without = items.worldsThere() & ~then;
        if (without == 0) {
            return DOUBT_MOST;
        }
        if (with == 0) {
            return -DOUBT_MOST;
        }
        return doubts.least(without) - doubts.least(with);
    }

    public int forget() {
        doubts.restart(items);
        return doubts.free();
    }

    public int weight(int kind, int rule) {
        if (!items.rules.has(rule)) {
            return NO;
        }
        switch (kind) {
            case 0:
                return weighSaying(rule);
            case 1:
                return weighRuled(rule);
            case 2:
                return weighGuessed(rule);
            case 3:
                return weighStrong(rule);
            default:
                return NO;
        }
    }

    public int count(int what) {
        switch (what) {
            case 0:
                return items.always.size();
            case 1:
                return items.rules.size();
            case 2:
                return items.facts.size();
            case 3:
                return items.guesses.size();
            case 4:
                return truth(items.rules.quarrel());
            case 5:
                return text.size();
            case 6:
                return Long.bitCount(items.worldsThere());
            default:
                return BAD;
        }
    }

    public long trace() {
        return asked;
    }

    // ---- what the calls share

    /** All that hangs on the ITEMS alone is found when they are told, so that no later call pays for it. */
    private void settle() {
        items.settle();
        ended.find(items.rules, items.worldsOfGround());
        doubts.restart(items);
    }

    private int faultAnswer() {
        return -10 - reader.fault();
    }

    private boolean isEver() {
        trial.copy(items.rules);
        trial.add(when, ~then);
        trial.sort(items.worldsThere());
        return trial.quarrel();
    }

    private int weighSaying(int rule) {
        asked += 1;
        return Long.bitCount(items.worldsThere() & items.rules.whens.get(rule));
    }

    private int weighRuled(int rule) {
        asked += 10;
        return weighSaying(rule) + items.rules.countedGrade(rule);
    }

    private int weighGuessed(int rule) {
        asked += 100;
        return weighSaying(rule) / 2;
    }

    private int weighStrong(int rule) {
        asked += 1000;
        return 2 * weighRuled(rule) - Long.bitCount(items.worldsThere() & items.rules.breaking(rule));
    }

    private static boolean isWorld(int world) {
        return world >= 0 && world < WORLDS;
    }

    private static boolean holds(long worlds, int world) {
        return (worlds >>> world & 1L) != 0;
    }

    private static boolean inSet(int set, int i) {
        return (set >>> i & 1) != 0;
    }

    private static boolean allIn(long worlds, long others) {
        return (worlds & ~others) == 0;
    }

    private static int truth(boolean b) {
        return b ? 1 : 0;
    }

    /** THE TEXT. */
    private static final class Text {
        private final byte[] bytes = new byte[TEXT_MOST];
        private int size = 0;

        int size() {
            return size;
        }

        /** Whether there was room for all n bytes; else none of them came. */
        boolean put(long v, int n) {
            if (n > TEXT_MOST - size) {
                return false;
            }
            for (int i = n - 1; i >= 0 && size < bytes.length; i--) {
                bytes[size] = (byte) (v >>> 8 * i);
                size++;
            }
            return true;
        }

        int wipe() {
            int had = size;
            size = 0;
            return had;
        }

        /** The byte at a place as 0 .. 255; -1, if the text does not reach so far. */
        int at(int place) {
            return place >= 0 && place < size && place < bytes.length ? bytes[place] & 255 : -1;
        }
    }

    /** SAYINGS of one sort as they stand, each kept as the WORLDS in which it is so. */
    private static final class Sayings {
        private final long[] kept = new long[RULES_MOST + 1];
        private final int most;
        private int size = 0;

        Sayings(int most) {
            this.most = Math.min(most, RULES_MOST + 1);
        }

        int size() {
            return size;
        }

        boolean isFull() {
            return size >= most;
        }

        boolean has(int i) {
            return i >= 0 && i < size;
        }

        /** The i-th; 0, if there is none. */
        long get(int i) {
            return i >= 0 && i < size && i < kept.length ? kept[i] : 0L;
        }

        void add(long worlds) {
            if (size < most && size < kept.length) {
                kept[size] = worlds;
                size++;
            }
        }

        void empty() {
            size = 0;
        }

        /** WORLDS in which all of them are so. */
        long meet() {
            long worlds = ALL;
            for (int i = 0; i < size; i++) {
                worlds &= get(i);
            }
            return worlds;
        }
    }

    /** RULES, and how they are sorted by which bear one another. */
    private static final class Rules {
        final Sayings whens;
        final Sayings thens;
        private final int[] grades = new int[RULES_MOST + 1];
        private boolean quarrel = false;

        Rules(int most) {
            whens = new Sayings(most);
            thens = new Sayings(most);
        }

        int size() {
            return whens.size();
        }

        boolean isFull() {
            return whens.isFull();
        }

        boolean has(int rule) {
            return whens.has(rule);
        }

        boolean quarrel() {
            return quarrel;
        }

        void empty() {
            whens.empty();
            thens.empty();
        }

        void add(long when, long then) {
            whens.add(when);
            thens.add(then);
        }

        void copy(Rules other) {
            empty();
            for (int r = 0; r < other.size(); r++) {
                add(other.whens.get(r), other.thens.get(r));
            }
        }

        /** WORLDS that BREAK a RULE. */
        long breaking(int rule) {
            return whens.get(rule) & ~thens.get(rule);
        }

        /** RULES that a WORLD BREAKS. */
        int brokenIn(int world) {
            int set = 0;
            for (int r = 0; r < size(); r++) {
                if (holds(breaking(r), world)) {
                    set |= 1 << r;
                }
            }
            return set;
        }

        void sort(long there) {
            int left = (1 << size()) - 1;
            for (int grade = 0; grade < grades.length && left != 0; grade++) {
                int borne = borneBy(left, there);
                stamp(borne, grade);
                left &= ~borne;
            }
            stamp(left, NONE);
            quarrel = left != 0;
        }

        /** RULES of a set that the set BEARS. */
        private int borneBy(int set, long there) {
            long calm = there;
            for (int r = 0; r < size(); r++) {
                if (inSet(set, r)) {
                    calm &= ~breaking(r);
                }
            }
            int borne = 0;
            for (int r = 0; r < size(); r++) {
                if (inSet(set, r) && (calm & whens.get(r) & thens.get(r)) != 0) {
                    borne |= 1 << r;
                }
            }
            return borne;
        }

        private void stamp(int set, int grade) {
            for (int r = 0; r < grades.length; r++) {
                if (inSet(set, r)) {
                    grades[r] = grade;
                }
            }
        }

        int gradeAt(int rule) {
            return rule >= 0 && rule < grades.length ? grades[rule] : NONE;
        }

        int countedGrade(int rule) {
            int grade = gradeAt(rule);
            return grade == NONE ? UNGRADED : grade;
        }

        /** 0, if no RULE of the set is BROKEN; else 1 more than the greatest GRADE of them. */
        int rankOf(int broken) {
            int rank = 0;
            for (int r = 0; r < size(); r++) {
                if (inSet(broken, r)) {
                    rank = Math.max(rank, countedGrade(r) + 1);
                }
            }
            return rank;
        }

        /**
         * How many RULES of each GRADE are in the set, in one number that is greater when more of the
         * greatest GRADE are: four bits a GRADE hold the eight that there can be at most.
         */
        long tallyOf(int broken) {
            long tally = 0;
            for (int r = 0; r < size(); r++) {
                if (inSet(broken, r)) {
                    tally += 1L << 4 * countedGrade(r);
                }
            }
            return tally;
        }
    }

    /** All that one text tells. */
    private static final class Items {
        final Sayings always = new Sayings(ALWAYS_MOST);
        final Rules rules = new Rules(RULES_MOST);
        final Sayings facts = new Sayings(FACTS_MOST);
        final Sayings guesses = new Sayings(GUESSES_MOST);
        private long there = ALL;
        private long ground = ALL;

        int size() {
            return always.size() + rules.size() + facts.size() + guesses.size();
        }

        void empty() {
            always.empty();
            rules.empty();
            facts.empty();
            guesses.empty();
        }

        void settle() {
            there = always.meet();
            ground = there & facts.meet();
            rules.sort(there);
        }

        long worldsThere() {
            return there;
        }

        long worldsOfGround() {
            return ground;
        }

        /** WORLDS of GRADE 0. */
        long unbroken() {
            long worlds = there;
            for (int r = 0; r < rules.size(); r++) {
                worlds &= ~rules.breaking(r);
            }
            return worlds;
        }

        /** GRADE of a WORLD. */
        int rank(int world) {
            return holds(there, world) ? rules.rankOf(rules.brokenIn(world)) : NONE;
        }

        /** WORLDS THERE among some that are the least by GRADE (how = 0) or BY COUNT (1). */
        long least(long among, int how) {
            long found = 0;
            long least = Long.MAX_VALUE;
            for (int w = 0; w < WORLDS; w++) {
                if (holds(there & among, w)) {
                    int broken = rules.brokenIn(w);
                    long rank = how == 0 ? rules.rankOf(broken) : rules.tallyOf(broken);
                    if (rank < least) {
                        least = rank;
                        found = 0;
                    }
                    if (rank == least) {
                        found |= 1L << w;
                    }
                }
            }
            return found;
        }

        /** Whether a set is one of GUESSES that tells why some SAYING is so, none of them to spare. */
        boolean tellsWhy(int set, long saying) {
            if (set >>> guesses.size() != 0) {
                return false;
            }
            long left = guessed(set);
            if (left == 0 || !allIn(left, saying)) {
                return false;
            }
            // More GUESSES leave fewer WORLDS, so leaving out one at a time finds all that is to spare.
            for (int g = 0; g < guesses.size(); g++) {
                if (inSet(set, g) && allIn(guessed(set & ~(1 << g)), saying)) {
                    return false;
                }
            }
            return true;
        }

        /** WORLDS of GROUND in which all GUESSES of a set are so. */
        private long guessed(int set) {
            long worlds = ground;
            for (int g = 0; g < guesses.size(); g++) {
                if (inSet(set, g)) {
                    worlds &= guesses.get(g);
                }
            }
            return worlds;
        }
    }

    /**
     * Reads a text: first all of it into TOKENS, then these one by one. At the first TOKEN that can't
     * stand where it does the reader becomes wrong and stays at it: no more is taken, and its place is FAULT.
     */
    private static final class Reader {
        /** Signs, figures and LETTERS stand for themselves. */
        private static final int END = 256, WRONG = 257, ALWAYS = 258, IF = 259, THEN = 260, FACT = 261, MAY = 262;
        /** In which WORLDS each LETTER is so. */
        private static final long[] LETTER_WORLDS = {
            0xAAAAAAAAAAAAAAAAL, 0xCCCCCCCCCCCCCCCCL, 0xF0F0F0F0F0F0F0F0L,
            0xFF00FF00FF00FF00L, 0xFFFF0000FFFF0000L, 0xFFFFFFFF00000000L
        };

        private final int[] tokens = new int[TEXT_MOST + 1];
        private final int[] places = new int[TEXT_MOST + 1];
        private int size = 0;
        private int next = 0;
        /** The TOKEN that stands next. */
        private int token = END;
        private long when = ALL;
        private long then = ALL;

        boolean isWrong() {
            return token == WRONG;
        }

        int fault() {
            return next >= 0 && next < places.length ? places[next] : 0;
        }

        long when() {
            return when;
        }

        long then() {
            return then;
        }

        void start(Text text) {
            size = 0;
            int place = 0;
            for (int n = 0; n < TEXT_MOST && place < text.size(); n++) {
                int sign = text.at(place);
                int length = 1;
                if (isSmall(sign)) {
                    length = wordLength(text, place);
                    put(wordToken(text, place, length), place);
                } else if (sign != ' ') {
                    put(isSign(sign) ? sign : WRONG, place);
                }
                place += length;
            }
            put(END, text.size());
            next = -1;
            take();
        }

        private void put(int token, int place) {
            if (size < tokens.length && size < places.length) {
                tokens[size] = token;
                places[size] = place;
                size++;
            }
        }

        private static boolean isSmall(int sign) {
            return sign >= 'a' && sign <= 'z';
        }

        private static boolean isSign(int sign) {
            switch (sign) {
                case '0':
                case '1':
                case ';':
                case '|':
                case '&':
                case '!':
                case '(':
                case ')':
                    return true;
                default:
                    return false;
            }
        }

        private static int wordLength(Text text, int place) {
            int length = 0;
            for (int n = 0; n < TEXT_MOST && isSmall(text.at(place + n)); n++) {
                length++;
            }
            return length;
        }

        private static int wordToken(Text text, int place, int length) {
            if (length == 1) {
                int letter = text.at(place);
                return letter <= 'f' ? letter : WRONG;
            }
            if (spells(text, place, length, "always")) {
                return ALWAYS;
            }
            if (spells(text, place, length, "if")) {
                return IF;
            }
            if (spells(text, place, length, "then")) {
                return THEN;
            }
            if (spells(text, place, length, "fact")) {
                return FACT;
            }
            return spells(text, place, length, "may") ? MAY : WRONG;
        }

        private static boolean spells(Text text, int place, int length, String word) {
            if (length != word.length()) {
                return false;
            }
            for (int i = 0; i < word.length(); i++) {
                if (text.at(place + i) != word.charAt(i)) {
                    return false;
                }
            }
            return true;
        }

        private void take() {
            next++;
            token = next >= 0 && next < size && next < tokens.length ? tokens[next] : END;
        }

        private void refuse() {
            token = WRONG;
        }

        private void expect(int due) {
            if (token == due) {
                take();
            } else {
                refuse();
            }
        }

        void readItems(Items into) {
            into.empty();
            for (int n = 0; n < TEXT_MOST && token != END && token != WRONG; n++) {
                switch (token) {
                    case ALWAYS:
                        readListed(into.always);
                        break;
                    case IF:
                        readRule(into.rules);
                        break;
                    case FACT:
                        readListed(into.facts);
                        break;
                    case MAY:
                        readListed(into.guesses);
                        break;
                    default:
                        refuse();
                        break;
                }
            }
        }

        private void readListed(Sayings row) {
            if (row.isFull()) {
                refuse();
                return;
            }
            take();
            row.add(saying(0));
            expect(';');
        }

        private void readRule(Rules rules) {
            if (rules.isFull()) {
                refuse();
                return;
            }
            take();
            long condition = saying(0);
            expect(THEN);
            rules.add(condition, saying(0));
            expect(';');
        }

        /** What it read are when() and then(). */
        void readQuestion() {
            when = ALL;
            if (token == IF) {
                take();
                when = saying(0);
                expect(THEN);
            }
            then = saying(0);
            if (token != END) {
                refuse();
            }
        }

        /** open: how many ! and ( are open around it. */
        private long saying(int open) {
            long worlds = both(open);
            for (int n = 0; n < TEXT_MOST && token == '|'; n++) {
                take();
                worlds |= both(open);
            }
            return worlds;
        }

        private long both(int open) {
            long worlds = one(open);
            for (int n = 0; n < TEXT_MOST && token == '&'; n++) {
                take();
                worlds &= one(open);
            }
            return worlds;
        }

        private long one(int open) {
            int letter = token - 'a';
            if (letter >= 0 && letter < LETTER_WORLDS.length) {
                take();
                return LETTER_WORLDS[letter];
            }
            if (token == '0' || token == '1') {
                long worlds = token == '1' ? ALL : 0L;
                take();
                return worlds;
            }
            if (token == '!' && open < OPEN_MOST) {
                take();
                return ~one(open + 1);
            }
            if (token == '(' && open < OPEN_MOST) {
                take();
                long worlds = saying(open + 1);
                expect(')');
                return worlds;
            }
            refuse();
            return 0L;
        }
    }

    /** ENDS: each a set of RULES and the WORLDS that it leaves. */
    private static final class Ends {
        private final int[] sets = new int[RULE_SETS];
        private final long[] lefts = new long[RULE_SETS];
        private int size = 0;

        int size() {
            return size;
        }

        boolean has(int k) {
            return k >= 0 && k < size;
        }

        int setAt(int k) {
            return k >= 0 && k < size && k < sets.length ? sets[k] : 0;
        }

        /** 0, if there is no such END. */
        long leftAt(int k) {
            return k >= 0 && k < size && k < lefts.length ? lefts[k] : 0L;
        }

        /** By how many of them a SAYING is HELD. */
        int holding(long saying) {
            int found = 0;
            for (int k = 0; k < size; k++) {
                if (allIn(leftAt(k), saying)) {
                    found++;
                }
            }
            return found;
        }

        void find(Rules rules, long ground) {
            size = 0;
            for (int set = 0; set < RULE_SETS && set >>> rules.size() == 0; set++) {
                long left = takenOn(rules, set, ground);
                if (left != 0 && isWhole(rules, set, left)) {
                    add(set, left);
                }
            }
        }

        private void add(int set, long left) {
            if (size < sets.length && size < lefts.length) {
                sets[size] = set;
                lefts[size] = left;
                size++;
            }
        }

        /**
         * What a set of RULES leaves; 0, if one of them can never be taken on. Fewer WORLDS left never
         * bar a WHEN, so it does not matter which of those that can be taken on goes first.
         */
        private static long takenOn(Rules rules, int set, long ground) {
            long left = ground;
            int waiting = set;
            for (int round = 0; round < RULES_MOST && waiting != 0; round++) {
                int before = waiting;
                for (int r = 0; r < rules.size(); r++) {
                    if (inSet(waiting, r) && allIn(left, rules.whens.get(r))) {
                        left &= rules.thens.get(r);
                        waiting &= ~(1 << r);
                    }
                }
                if (waiting == before) {
                    return 0L;
                }
            }
            return left;
        }

        /** Whether no RULE outside the set could still be taken on. */
        private static boolean isWhole(Rules rules, int set, long left) {
            for (int r = 0; r < rules.size(); r++) {
                boolean could = allIn(left, rules.whens.get(r)) && (left & rules.thens.get(r)) != 0;
                if (could && !inSet(set, r)) {
                    return false;
                }
            }
            return true;
        }
    }

    /** DOUBT of each WORLD. */
    private static final class Doubts {
        private final int[] kept = new int[WORLDS];

        int at(int world) {
            return world >= 0 && world < kept.length ? kept[world] : NONE;
        }

        void restart(Items items) {
            for (int w = 0; w < kept.length; w++) {
                kept[w] = items.rank(w);
            }
        }

        /** The least of some WORLDS THERE. */
        int least(long among) {
            int least = DOUBT_MOST;
            for (int w = 0; w < kept.length; w++) {
                if (holds(among, w)) {
                    least = Math.min(least, kept[w]);
                }
            }
            return least;
        }

        void shift(long among, int by) {
            for (int w = 0; w < kept.length; w++) {
                if (holds(among, w)) {
                    kept[w] = Math.min(DOUBT_MOST, kept[w] + by);
                }
            }
        }

        /** How many WORLDS have DOUBT 0. */
        int free() {
            int found = 0;
            for (int w = 0; w < kept.length; w++) {
                if (kept[w] == 0) {
                    found++;
                }
            }
            return found;
        }
    }
}
