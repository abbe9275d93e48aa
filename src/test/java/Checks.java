import java.util.Objects;

/** Counts what is not as due, and makes and reads pictures written as rows of '#' and '.'. */
final class Checks {
    private int wrong = 0;
    private int made = 0;

    void due(String what, Object got, Object want) {
        made++;
        if (!Objects.equals(got, want)) {
            wrong++;
            if (wrong <= 40) {
                System.out.println(what + " answered " + got + ", due is " + want);
            }
        }
    }

    /** A call whose exception, if any, is its answer. */
    interface Call {
        Object answer();
    }

    static Object answerOf(Call call) {
        try {
            return call.answer();
        } catch (RuntimeException e) {
            // The class itself, not one above it: a machine's own exception is another one.
            return e.getClass().getName();
        }
    }

    void dueState(String what, Call call) {
        due(what, answerOf(call), "java.lang.IllegalStateException");
    }

    void dueBounds(String what, Call call) {
        due(what, answerOf(call), "java.lang.IndexOutOfBoundsException");
    }

    void dueArgument(String what, Call call) {
        due(what, answerOf(call), "java.lang.IllegalArgumentException");
    }

    static Subject of(String... rows) {
        Subject made = new Subject(rows[0].length(), rows.length);
        for (int y = 0; y < rows.length; y++) {
            for (int x = 0; x < rows[y].length(); x++) {
                if (rows[y].charAt(x) == '#') {
                    made.put(x, y, true);
                }
            }
        }
        return made;
    }

    static Subject thinned(String... rows) {
        Subject made = of(rows);
        made.thin();
        return made;
    }

    /** All black; no more than some 500 samples, or its object has no calls left. */
    static Subject full(int width, int height) {
        Subject made = new Subject(width, height);
        for (int n = 0; n < width * height; n++) {
            made.put(n % width, n / width, true);
        }
        return made;
    }

    static String linesOf(Face x) {
        int width = x.told(0);
        int height = x.told(1);
        StringBuilder text = new StringBuilder();
        for (int row = 0; row < height; row++) {
            text.append(row == 0 ? "" : "/");
            for (int column = 0; column < width; column++) {
                text.append(x.at(column, row) ? '#' : '.');
            }
        }
        return text.toString();
    }

    /** A stroke as "column,row column,row ..". */
    static String strokeOf(Face x, int stroke) {
        int points = x.points(stroke);
        StringBuilder text = new StringBuilder();
        for (int k = 0; k < points; k++) {
            text.append(k == 0 ? "" : " ");
            text.append(x.place(stroke, k, 0)).append(',').append(x.place(stroke, k, 1));
        }
        return text.toString();
    }

    /** All strokes, with '; ' between them. */
    static String strokesOf(Face x) {
        int strokes = x.strokes();
        StringBuilder text = new StringBuilder();
        for (int s = 0; s < strokes; s++) {
            text.append(s == 0 ? "" : "; ").append(strokeOf(x, s));
        }
        return text.toString();
    }

    /** All that can be asked of an object, so that two states may be compared. */
    static String allOf(Face x) {
        StringBuilder text = new StringBuilder(linesOf(x));
        for (int what = -1; what <= 5; what++) {
            text.append(' ').append(x.told(what));
        }
        text.append(" parts ").append(x.parts()).append(" holes ").append(x.holes());
        text.append(" distances").append(distancesOf(x));
        text.append(" draw ").append(answerOf(x::draw));
        text.append(" strokes ").append(answerOf(x::strokes));
        if (x.told(4) == 1) {
            text.append(' ').append(strokesOf(x)).append(" joined").append(joinedOf(x));
            text.append(" crossings").append(crossingsOf(x));
        }
        return text.toString();
    }

    private static String distancesOf(Face x) {
        int width = x.told(0);
        int height = x.told(1);
        StringBuilder text = new StringBuilder();
        for (int row = 0; row < height; row++) {
            for (int column = 0; column < width; column++) {
                text.append(' ').append(x.distance2(column, row));
            }
        }
        return text.toString();
    }

    private static String joinedOf(Face x) {
        int strokes = x.strokes();
        StringBuilder text = new StringBuilder();
        for (int s = 0; s < strokes; s++) {
            text.append(' ').append(x.joined(s));
        }
        return text.toString();
    }

    /** Each crossing as "column,row by degree", till one is not there. */
    static String crossingsOf(Face x) {
        StringBuilder text = new StringBuilder();
        for (int k = 0; k < 600; k++) {
            int at = k;
            Object column = answerOf(() -> x.crossing(at, 0));
            if (!(column instanceof Integer)) {
                break;
            }
            text.append(' ').append(column).append(',').append(x.crossing(k, 1));
            text.append(" by ").append(x.crossing(k, 2));
        }
        return text.toString();
    }

    void end(String name) {
        System.out.println(name + ": " + made + " answers, " + wrong + " not as due");
        if (wrong != 0) {
            System.exit(1);
        }
    }
}
