import java.util.Objects;

/** Counts what is not as due, and makes and reads pictures written as rows of '#' and '.'. */
final class Checks {
    private int wrong = 0;
    private int made = 0;

    void due(String what, Object got, Object want) {
        made++;
        if (!Objects.equals(got, want)) {
            wrong++;
            if (wrong <= 40) {
                System.out.println(what + " answered " + got + ", due is " + want);
            }
        }
    }

    /** A call whose exception, if any, is its answer. */
    interface Call {
        Object answer();
    }

    static Object answerOf(Call call) {
        try {
            return call.answer();
        } catch (RuntimeException e) {
            // The class itself, not one above it: a machine's own exception is another one.
            return e.getClass().getName();
        }
    }

    void dueState(String what, Call call) {
        due(what, answerOf(call), "java.lang.IllegalStateException");
    }

    void dueBounds(String what, Call call) {
        due(what, answerOf(call), "java.lang.IndexOutOfBoundsException");
    }

    void dueArgument(String what, Call call) {
        due(what, answerOf(call), "java.lang.IllegalArgumentException");
    }

    static ThinStrokes of(String... rows) {
        ThinStrokes made = new ThinStrokes(rows[0].length(), rows.length);
        for (int y = 0; y < rows.length; y++) {
            for (int x = 0; x < rows[y].length(); x++) {
                if (rows[y].charAt(x) == '#') {
                    made.put(x, y, true);
                }
            }
        }
        return made;
    }

    static ThinStrokes thinned(String... rows) {
        ThinStrokes made = of(rows);
        made.thin();
        return made;
    }

    static String linesOf(ThinStrokes x) {
        StringBuilder text = new StringBuilder();
        for (int row = 0; row < x.told(1); row++) {
            text.append(row == 0 ? "" : "/");
            for (int column = 0; column < x.told(0); column++) {
                text.append(x.at(column, row) ? '#' : '.');
            }
        }
        return text.toString();
    }

    /** A stroke as "column,row column,row ..". */
    static String strokeOf(ThinStrokes x, int stroke) {
        StringBuilder text = new StringBuilder();
        for (int k = 0; k < x.points(stroke); k++) {
            text.append(k == 0 ? "" : " ");
            text.append(x.place(stroke, k, 0)).append(',').append(x.place(stroke, k, 1));
        }
        return text.toString();
    }

    /** All that can be asked of an object, so that two states may be compared. */
    static String allOf(ThinStrokes x) {
        StringBuilder text = new StringBuilder(linesOf(x));
        for (int what = -1; what <= 5; what++) {
            text.append(' ').append(x.told(what));
        }
        text.append(" parts ").append(x.parts()).append(" holes ").append(x.holes());
        for (int row = 0; row < x.told(1); row++) {
            for (int column = 0; column < x.told(0); column++) {
                text.append(' ').append(x.distance2(column, row));
            }
        }
        text.append(" draw ").append(answerOf(x::draw));
        text.append(" strokes ").append(answerOf(x::strokes));
        for (int s = 0; x.told(4) == 1 && s < x.strokes(); s++) {
            text.append(" [").append(strokeOf(x, s)).append("] to ").append(x.joined(s));
        }
        for (int k = 0; k < 600; k++) {
            int at = k;
            Object column = answerOf(() -> x.crossing(at, 0));
            if (!(column instanceof Integer)) {
                text.append(" crossings ").append(k).append(' ').append(column);
                break;
            }
            text.append(' ').append(column).append(',').append(x.crossing(k, 1));
            text.append('x').append(x.crossing(k, 2));
        }
        return text.toString();
    }

    void end(String name) {
        System.out.println(name + ": " + made + " answers, " + wrong + " not as due");
        if (wrong != 0) {
            System.exit(1);
        }
    }
}
