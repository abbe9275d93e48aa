import java.util.List;
import java.util.Random;

/** Pictures of many kinds, always the same ones, asked of the class and of the model. */
public final class ModelTest {
    private static final Checks CHECKS = new Checks();
    private static final Random RANDOM = new Random(20261115);

    public static void main(String[] args) {
        everyPictureOfThreeByThree();
        for (int n = 0; n < 1500; n++) {
            compareRun("picture " + n, size(), size(), n % 5);
        }
        CHECKS.end("ModelTest");
    }

    private static void everyPictureOfThreeByThree() {
        for (int bits = 0; bits < 512; bits++) {
            ThinStrokes x = new ThinStrokes(3, 3);
            Model model = new Model(3, 3);
            for (int k = 0; k < 9; k++) {
                x.put(k % 3, k / 3, (bits >> k & 1) != 0);
                model.put(k % 3, k / 3, (bits >> k & 1) != 0);
            }
            compareAll("bits " + bits, x, model);
            thinBoth("bits " + bits, x, model);
            for (int length = 0; length < 4; length++) {
                pruneBoth("bits " + bits, x, model, length);
            }
        }
    }

    private static int size() {
        return RANDOM.nextInt(4) == 0 ? 1 + RANDOM.nextInt(24) : 4 + RANDOM.nextInt(10);
    }

    private static void compareRun(String name, int width, int height, int kind) {
        ThinStrokes x = new ThinStrokes(width, height);
        Model model = new Model(width, height);
        paint(x, model, kind);
        compareAll(name, x, model);
        thinBoth(name, x, model);
        thinBoth(name, x, model);
        for (int n = 0; n < 2; n++) {
            pruneBoth(name, x, model, RANDOM.nextInt(8));
        }
        thinBoth(name + " after it was pruned", x, model);
        putBoth(x, model, RANDOM.nextInt(width), RANDOM.nextInt(height), RANDOM.nextBoolean());
        compareAll(name + " after a put", x, model);
        thinBoth(name + " after a put", x, model);
        if (RANDOM.nextInt(8) == 0) {
            x.clear();
            model.clear();
            compareAll(name + " after clear", x, model);
            paint(x, model, kind);
            thinBoth(name + " after clear", x, model);
        }
    }

    /** Kinds: noise sparse, even and dense; strokes one sample wide; strokes of a broad brush. */
    private static void paint(ThinStrokes x, Model model, int kind) {
        if (kind < 3) {
            int share = 25 + 25 * kind;
            for (int row = 0; row < model.height; row++) {
                for (int column = 0; column < model.width; column++) {
                    if (RANDOM.nextInt(100) < share) {
                        putBoth(x, model, column, row, true);
                    }
                }
            }
            return;
        }
        for (int n = 0; n < 4; n++) {
            paintStroke(x, model, kind == 3 ? 0 : 1 + RANDOM.nextInt(2));
        }
    }

    private static void paintStroke(ThinStrokes x, Model model, int brush) {
        double column = RANDOM.nextInt(model.width);
        double row = RANDOM.nextInt(model.height);
        double angle = RANDOM.nextDouble() * 2 * Math.PI;
        for (int step = 0; step < 15; step++) {
            for (int dy = -brush; dy <= brush; dy++) {
                for (int dx = -brush; dx <= brush; dx++) {
                    int c = (int) Math.round(column) + dx;
                    int r = (int) Math.round(row) + dy;
                    if (c >= 0 && c < model.width && r >= 0 && r < model.height) {
                        putBoth(x, model, c, r, true);
                    }
                }
            }
            angle += RANDOM.nextDouble() - 0.5;
            column += Math.cos(angle);
            row += Math.sin(angle);
        }
    }

    private static void putBoth(ThinStrokes x, Model model, int column, int row, boolean on) {
        CHECKS.due("put", x.put(column, row, on), model.put(column, row, on));
    }

    private static void thinBoth(String name, ThinStrokes x, Model model) {
        int parts = x.parts();
        int holes = x.holes();
        CHECKS.due(name + ": thin()", x.thin(), model.thin());
        CHECKS.due(name + ": parts() stay", x.parts(), parts);
        CHECKS.due(name + ": holes() stay", x.holes(), holes);
        compareAll(name, x, model);
    }

    private static void pruneBoth(String name, ThinStrokes x, Model model, int length) {
        CHECKS.due(name + ": prune(" + length + ")", x.prune(length), model.prune(length));
        compareAll(name + " pruned", x, model);
    }

    private static void compareAll(String name, ThinStrokes x, Model model) {
        CHECKS.due(name + ": told(2)", x.told(2), model.picture.size());
        CHECKS.due(name + ": told(3)", x.told(3), model.lines.size());
        CHECKS.due(name + ": told(4)", x.told(4), model.thinned ? 1 : 0);
        CHECKS.due(name + ": parts()", x.parts(), model.parts());
        CHECKS.due(name + ": holes()", x.holes(), model.holes());
        compareSamples(name, x, model);
        if (model.thinned) {
            CHECKS.due(name + ": draw()", x.draw(), model.draw());
            compareStrokes(name, x, model);
            compareCrossings(name, x, model);
        }
    }

    private static void compareSamples(String name, ThinStrokes x, Model model) {
        for (int row = 0; row < model.height; row++) {
            for (int column = 0; column < model.width; column++) {
                String where = "(" + column + ", " + row + ")";
                CHECKS.due(name + ": at" + where, x.at(column, row),
                        model.lines.contains(new Model.Sample(row, column)));
            }
        }
        int column = RANDOM.nextInt(model.width);
        int row = RANDOM.nextInt(model.height);
        CHECKS.due(name + ": distance2(" + column + ", " + row + ")", x.distance2(column, row),
                model.distance2(column, row));
    }

    private static void compareStrokes(String name, ThinStrokes x, Model model) {
        List<List<Model.Sample>> strokes = model.strokes();
        CHECKS.due(name + ": strokes()", x.strokes(), strokes.size());
        for (int s = 0; s < strokes.size() && s < x.strokes(); s++) {
            StringBuilder want = new StringBuilder();
            for (Model.Sample p : strokes.get(s)) {
                want.append(want.length() == 0 ? "" : " ").append(p.x()).append(',').append(p.y());
            }
            CHECKS.due(name + ": stroke " + s, Checks.strokeOf(x, s), want.toString());
            CHECKS.due(name + ": joined(" + s + ")", x.joined(s), model.joined(s));
        }
    }

    private static void compareCrossings(String name, ThinStrokes x, Model model) {
        List<Model.Sample> crossings = model.crossings();
        for (int k = 0; k < crossings.size(); k++) {
            String of = name + ": crossing " + k;
            CHECKS.due(of + " column", x.crossing(k, 0), crossings.get(k).x());
            CHECKS.due(of + " row", x.crossing(k, 1), crossings.get(k).y());
            CHECKS.due(of + " degree", x.crossing(k, 2), model.degree(crossings.get(k)));
        }
        CHECKS.dueBounds(name + ": crossing after the last", () -> x.crossing(crossings.size(), 0));
    }
}
