import java.util.Random;

/**
 * Runs of 512 calls with arguments of every sort. Each answer, and each exception, is that of the
 * model, which a call that throws does not change.
 */
public final class WildCallsTest {
    private static final Checks CHECKS = new Checks();
    private static final Random RANDOM = new Random(512);
    private static final int[] FAR = {
        Integer.MIN_VALUE, Integer.MIN_VALUE + 1, -601, -33, -32, -2, -1, 23, 24, 25, 31, 32, 33,
        575, 576, 577, 600, 601, 1 << 27, 1 << 30, Integer.MAX_VALUE - 1, Integer.MAX_VALUE};

    public static void main(String[] args) {
        for (int run = 0; run < 400; run++) {
            int width = number(26);
            int height = number(26);
            Face x = new Subject(width, height);
            Face model = new Model(width, height);
            for (int call = 0; call < Subject.MOST_CALLS; call++) {
                // Some runs paint first, so that there is much to ask of what comes then.
                int kind = RANDOM.nextInt(run % 2 == 0 && call < 200 ? 18 : 40);
                int a = number(kind < 24 ? 23 : 5);
                int b = number(kind < 24 ? 23 : 3);
                int c = number(1);
                CHECKS.due("run " + run + " call " + call + " of kind " + kind + " (" + a + ", " + b
                        + ", " + c + ")", answerOf(x, kind, a, b, c), answerOf(model, kind, a, b, c));
            }
        }
        CHECKS.end("WildCallsTest");
    }

    /** Mostly a number up to the limit, now and then one from far off. */
    private static int number(int limit) {
        return RANDOM.nextInt(8) == 0 ? FAR[RANDOM.nextInt(FAR.length)] : RANDOM.nextInt(limit + 1);
    }

    private static Object answerOf(Face x, int kind, int a, int b, int c) {
        return Checks.answerOf(() -> switch (kind) {
            case 18, 19 -> x.at(a, b);
            case 20, 21 -> x.distance2(a, b);
            case 22, 23, 37, 38, 39 -> x.thin();
            case 24 -> x.prune(a);
            case 25 -> x.strokes();
            case 26 -> x.points(a);
            case 27 -> x.place(a, b, c);
            case 28, 29 -> x.joined(a);
            case 30, 31 -> x.crossing(a, b);
            case 32 -> x.parts();
            case 33 -> x.holes();
            case 34 -> x.draw();
            case 35 -> x.told(a);
            case 36 -> clearSeldom(x, a, b, c);
            default -> x.put(a, b, c != 0);
        });
    }

    private static Object clearSeldom(Face x, int a, int b, int c) {
        if (a == 0 && b == 0 && c == 0) {
            x.clear();
            return "cleared";
        }
        return x.told(2);
    }
}
