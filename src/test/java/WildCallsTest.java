import java.util.Random;

/** Any calls with any arguments in any state: none may throw, and every answer lies where the document puts it. */
public final class WildCallsTest {
    private static final int RUNS = 1000;
    private static final int CALLS_MOST = 512;
    private static final int[] EDGES = {Integer.MIN_VALUE, Integer.MIN_VALUE + 1, -1000, -65, -10, -9, -3, -2, -1, 0, 1, 2, 3, 4,
        5, 6, 7, 8, 9, 10, 15, 16, 20, 21, 31, 32, 33, 63, 64, 65, 255, 256, 257, 400, 401, Integer.MAX_VALUE - 1, Integer.MAX_VALUE};
    private static final String[] PIECES = {"always ", "if ", " then ", "fact ", "may ", ";", ";", ";", "a", "b", "c", "d", "e", "f",
        "0", "1", "!", "(", ")", "&", "|", " ", "always a;", "if a then b;", "if b then !c;", "if 1 then d;", "fact e;", "may f;",
        "if c&d then !(a|f);", "may a&b;", "z", "9", "\0"};
    private static int wrong = 0;
    private static int calls = 0;

    public static void main(String[] args) {
        for (int run = 0; run < RUNS; run++) {
            Random random = new Random(run);
            AsARule x = new AsARule();
            try {
                for (calls = 0; calls < CALLS_MOST - 8; ) {
                    oneCall(x, random);
                }
            } catch (RuntimeException | StackOverflowError thrown) {
                wrong++;
                thrown.printStackTrace(System.out);
            }
        }
        System.out.println(wrong == 0 ? "no wild call went wrong" : wrong + " wild calls went wrong");
        if (wrong != 0) {
            System.exit(1);
        }
    }

    private static int number(Random random) {
        return random.nextInt(4) == 0 ? random.nextInt() : EDGES[random.nextInt(EDGES.length)];
    }

    private static void within(String call, long answer, long least, long most) {
        if (answer < least || answer > most) {
            wrong++;
            System.out.println(call + " answered " + answer);
        }
    }

    private static void typePiece(AsARule x, Random random) {
        String piece = PIECES[random.nextInt(PIECES.length)];
        for (int i = 0; i < piece.length(); i += 8) {
            long v = 0;
            int n = Math.min(8, piece.length() - i);
            for (int k = 0; k < n; k++) {
                v = v << 8 | piece.charAt(i + k);
            }
            calls++;
            within("type", x.type(v, n), AsARule.FULL, 400);
        }
    }

    private static void oneCall(AsARule x, Random random) {
        int n = number(random);
        int k = number(random);
        calls++;
        switch (random.nextInt(34)) {
            case 0 -> within("type", x.type(random.nextLong(), n), AsARule.FULL, 400);
            case 1 -> within("clear", x.clear(), 0, 400);
            case 2 -> within("tell", x.tell(), -410, 22);
            case 3 -> within("question", x.question(), -410, 1);
            case 4 -> x.worlds(n, k);
            case 5 -> x.there(n);
            case 6 -> within("grade", x.grade(n), AsARule.NONE, 7);
            case 7 -> within("gradeOf", x.gradeOf(n), AsARule.NONE, 9);
            case 8 -> within("breaks", x.breaks(n), AsARule.BAD, 255);
            case 9 -> within("so", x.so(n), AsARule.BAD, 1);
            case 10 -> x.best(n);
            case 11 -> within("ends", x.ends(n), AsARule.BAD, 255);
            case 12 -> x.leaves(n);
            case 13 -> within("held", x.held(), 0, 70);
            case 14 -> within("why", x.why(n), AsARule.BAD, 63);
            case 15 -> within("doubt", x.doubt(n), AsARule.NONE, 99);
            case 16 -> within("learn", x.learn(n), AsARule.STATE, 64);
            case 17 -> within("believed", x.believed(), -99, 99);
            case 18 -> within("forget", x.forget(), 0, 64);
            case 19 -> within("weight", x.weight(n, k), AsARule.NO, 144);
            case 20 -> within("count", x.count(n), AsARule.BAD, 400);
            case 21 -> within("trace", x.trace(), 0, 1011L * CALLS_MOST);
            case 22 -> {
                x.clear();
                typePiece(x, random);
                x.tell();
                calls++;
            }
            default -> typePiece(x, random);
        }
    }
}
