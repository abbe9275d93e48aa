import java.util.Random;

/**
 * Runs of 512 calls with arguments of every sort. What a call throws is reckoned beforehand from
 * the document; it comes from a throw of the class, and changes nothing.
 */
public final class WildCallsTest {
    private static final Checks CHECKS = new Checks();
    private static final Random RANDOM = new Random(512);
    private static final int[] FAR = {
        Integer.MIN_VALUE, Integer.MIN_VALUE + 1, -601, -33, -32, -2, -1, 23, 24, 25, 31, 32, 33,
        575, 576, 577, 600, 601, 1 << 27, 1 << 31 >>> 1, Integer.MAX_VALUE - 1, Integer.MAX_VALUE};
    private static final String STATE = "IllegalStateException";
    private static final String BOUNDS = "IndexOutOfBoundsException";
    private static final String ARGUMENT = "IllegalArgumentException";
    private static final String NOTHING = "nothing";

    public static void main(String[] args) {
        for (int run = 0; run < 120; run++) {
            ThinStrokes x = new ThinStrokes(number(26), number(26));
            for (int call = 0; call < 512; call++) {
                wildCall(x, run * 1000 + call);
            }
        }
        CHECKS.end("WildCallsTest");
    }

    /** Mostly a number below the limit, now and then one from far off. */
    private static int number(int limit) {
        return RANDOM.nextInt(8) == 0 ? FAR[RANDOM.nextInt(FAR.length)] : RANDOM.nextInt(limit + 1);
    }

    private static void wildCall(ThinStrokes x, int name) {
        int which = RANDOM.nextInt(40);
        int a = number(which < 24 ? 23 : 3);
        int b = number(which < 24 ? 23 : 3);
        int c = number(1);
        String want = dueThrow(x, which, a, b, c);
        boolean look = !want.equals(NOTHING) && RANDOM.nextInt(10) == 0;
        String before = look ? Checks.allOf(x) : "";
        String got = thrownBy(x, which, a, b, c);
        String call = "call " + name + " of kind " + which + " (" + a + ", " + b + ", " + c + ")";
        CHECKS.due(call + " throws", got, want);
        if (look) {
            CHECKS.due(call + " changes nothing", Checks.allOf(x).equals(before), true);
        }
    }

    private static String dueThrow(ThinStrokes x, int which, int a, int b, int c) {
        boolean sample = a >= 0 && a < x.told(0) && b >= 0 && b < x.told(1);
        boolean thinned = x.told(4) == 1;
        boolean stroke = thinned && a >= 0 && a < x.strokes();
        if (which < 22) {
            return sample ? NOTHING : BOUNDS;
        }
        switch (which) {
            case 24:
                return !thinned ? STATE : a < 0 || a > 600 ? ARGUMENT : NOTHING;
            case 25:
            case 34:
                return thinned ? NOTHING : STATE;
            case 26:
            case 28:
                return !thinned ? STATE : stroke ? NOTHING : BOUNDS;
            case 27:
                boolean point = stroke && b >= 0 && b < x.points(a) && (c == 0 || c == 1);
                return !thinned ? STATE : point ? NOTHING : BOUNDS;
            case 29:
                boolean crossing = thinned && a >= 0 && a < crossings(x);
                return !thinned ? STATE : !crossing ? BOUNDS : b < 0 || b > 2 ? ARGUMENT : NOTHING;
            default:
                return NOTHING;
        }
    }

    // By the strokes' ends, so that crossing itself is not asked.
    private static int crossings(ThinStrokes x) {
        int[][] degree = new int[24][24];
        for (int s = 0; s < x.strokes(); s++) {
            int last = x.points(s) - 1;
            degree[x.place(s, 0, 1)][x.place(s, 0, 0)]++;
            degree[x.place(s, last, 1)][x.place(s, last, 0)]++;
        }
        int count = 0;
        for (int[] row : degree) {
            for (int d : row) {
                count += d >= 3 ? 1 : 0;
            }
        }
        return count;
    }

    private static String thrownBy(ThinStrokes x, int which, int a, int b, int c) {
        try {
            call(x, which, a, b, c);
            return NOTHING;
        } catch (RuntimeException e) {
            String name = e.getClass().getSimpleName();
            boolean own = e.getStackTrace()[0].getClassName().startsWith("ThinStrokes");
            return own && e.getMessage() != null ? name : name + " of the machine";
        }
    }

    private static void call(ThinStrokes x, int which, int a, int b, int c) {
        if (which < 18) {
            x.put(a, b, c != 0 || RANDOM.nextBoolean());
        } else if (which < 20) {
            x.at(a, b);
        } else if (which < 22) {
            x.distance2(a, b);
        } else if (which < 24 || which > 35) {
            x.thin();
        } else {
            callOfStrokes(x, which, a, b, c);
        }
    }

    private static void callOfStrokes(ThinStrokes x, int which, int a, int b, int c) {
        switch (which) {
            case 24 -> x.prune(a);
            case 25 -> x.strokes();
            case 26 -> x.points(a);
            case 27 -> x.place(a, b, c);
            case 28 -> x.joined(a);
            case 29 -> x.crossing(a, b);
            case 30 -> x.parts();
            case 31 -> x.holes();
            case 32, 33 -> x.told(a);
            case 34 -> x.draw();
            default -> {
                if (RANDOM.nextInt(10) == 0) {
                    x.clear();
                }
            }
        }
    }
}
