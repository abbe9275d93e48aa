import java.util.ArrayList;
import java.util.List;
import java.util.function.Consumer;

/**
 * An object of the class whose calls are counted. What it answers after its 512th call is free, so
 * then another one is made and brought to the same state, and that is asked instead.
 */
final class Subject implements Face {
    static final int MOST_CALLS = 512;

    private final int width;
    private final int height;
    private final List<Consumer<ThinStrokes>> changes = new ArrayList<>();
    private ThinStrokes object;
    private int calls = 0;

    Subject(int width, int height) {
        this.width = width;
        this.height = height;
        object = new ThinStrokes(width, height);
    }

    /** How many calls the object that is asked now has had. */
    int calls() {
        return calls;
    }

    private ThinStrokes next() {
        if (calls == MOST_CALLS) {
            if (changes.size() >= MOST_CALLS) {
                throw new AssertionError("the test changes more than the document lets it");
            }
            object = new ThinStrokes(width, height);
            changes.forEach(change -> change.accept(object));
            calls = changes.size();
        }
        calls++;
        return object;
    }

    @Override
    public boolean put(int x, int y, boolean on) {
        boolean answer = next().put(x, y, on);
        changes.add(o -> o.put(x, y, on));
        return answer;
    }

    @Override
    public int thin() {
        int answer = next().thin();
        changes.add(ThinStrokes::thin);
        return answer;
    }

    @Override
    public boolean at(int x, int y) {
        return next().at(x, y);
    }

    @Override
    public int prune(int length) {
        int answer = next().prune(length);
        changes.add(o -> o.prune(length));
        return answer;
    }

    @Override
    public int strokes() {
        return next().strokes();
    }

    @Override
    public int points(int stroke) {
        return next().points(stroke);
    }

    @Override
    public int place(int stroke, int k, int axis) {
        return next().place(stroke, k, axis);
    }

    @Override
    public long distance2(int x, int y) {
        return next().distance2(x, y);
    }

    @Override
    public int crossing(int k, int what) {
        return next().crossing(k, what);
    }

    @Override
    public int joined(int stroke) {
        return next().joined(stroke);
    }

    @Override
    public int parts() {
        return next().parts();
    }

    @Override
    public int holes() {
        return next().holes();
    }

    @Override
    public int draw() {
        return next().draw();
    }

    @Override
    public int told(int what) {
        return next().told(what);
    }

    @Override
    public void clear() {
        next().clear();
        changes.add(ThinStrokes::clear);
    }
}
