import java.util.Random;

/** Pictures of many kinds, always the same ones, asked of the class and of the model. */
public final class ModelTest {
    private static final Checks CHECKS = new Checks();
    private static final Random RANDOM = new Random(20261115);
    // So many samples at most, that the calls an object may have are enough for the rest of a run.
    private static final int MOST_BLACK = 460;

    public static void main(String[] args) {
        everyPictureOfThreeByThree();
        for (int n = 0; n < 1500; n++) {
            new Pair("picture " + n, size(), size()).run(n % 5);
        }
        CHECKS.end("ModelTest");
    }

    private static void everyPictureOfThreeByThree() {
        for (int bits = 0; bits < 512; bits++) {
            Pair pair = new Pair("bits " + bits, 3, 3);
            for (int k = 0; k < 9; k++) {
                pair.put(k % 3, k / 3, (bits >> k & 1) != 0);
            }
            pair.compare("painted");
            pair.thin("thinned");
            for (int length = 0; length < 4; length++) {
                pair.prune(length);
            }
        }
    }

    private static int size() {
        return RANDOM.nextInt(4) == 0 ? 1 + RANDOM.nextInt(24) : 4 + RANDOM.nextInt(10);
    }

    /** An object of the class and a model that have had the same calls. */
    private static final class Pair {
        private final String name;
        private final int width;
        private final int height;
        private final Subject x;
        private final Model model;

        Pair(String name, int width, int height) {
            this.name = name;
            this.width = width;
            this.height = height;
            x = new Subject(width, height);
            model = new Model(width, height);
        }

        void run(int kind) {
            paint(kind);
            compare("painted");
            thin("thinned");
            thin("thinned again");
            prune(RANDOM.nextInt(8));
            prune(RANDOM.nextInt(8));
            thin("thinned after it was pruned");
            put(RANDOM.nextInt(width), RANDOM.nextInt(height), RANDOM.nextBoolean());
            compare("after a put");
            thin("thinned after a put");
            if (RANDOM.nextInt(4) == 0 && model.told(2) < MOST_BLACK / 3) {
                clear();
                paint(kind);
                thin("thinned after clear");
            }
        }

        void put(int column, int row, boolean on) {
            CHECKS.due(name + ": put", x.put(column, row, on), model.put(column, row, on));
        }

        void thin(String when) {
            int parts = x.parts();
            int holes = x.holes();
            CHECKS.due(name + ": thin()", x.thin(), model.thin());
            CHECKS.due(name + ": parts() stay", x.parts(), parts);
            CHECKS.due(name + ": holes() stay", x.holes(), holes);
            compare(when);
        }

        void prune(int length) {
            CHECKS.due(name + ": prune(" + length + ")", x.prune(length), model.prune(length));
            compare("pruned by " + length);
        }

        private void clear() {
            x.clear();
            model.clear();
            compare("after clear");
        }

        void compare(String when) {
            CHECKS.due(name + " " + when, Checks.allOf(x), Checks.allOf(model));
        }

        /** Kinds: noise sparse, even and dense; strokes one sample wide; strokes of a broad brush. */
        private void paint(int kind) {
            if (kind < 3) {
                int share = 25 + 25 * kind;
                for (int n = 0; n < width * height; n++) {
                    if (RANDOM.nextInt(100) < share) {
                        blacken(n % width, n / width);
                    }
                }
                return;
            }
            for (int n = 0; n < 4; n++) {
                paintStroke(kind == 3 ? 0 : 1 + RANDOM.nextInt(2));
            }
        }

        private void paintStroke(int brush) {
            double column = RANDOM.nextInt(width);
            double row = RANDOM.nextInt(height);
            double angle = RANDOM.nextDouble() * 2 * Math.PI;
            for (int step = 0; step < 15; step++) {
                for (int dy = -brush; dy <= brush; dy++) {
                    for (int dx = -brush; dx <= brush; dx++) {
                        blacken((int) Math.round(column) + dx, (int) Math.round(row) + dy);
                    }
                }
                angle += RANDOM.nextDouble() - 0.5;
                column += Math.cos(angle);
                row += Math.sin(angle);
            }
        }

        private void blacken(int column, int row) {
            boolean inside = column >= 0 && column < width && row >= 0 && row < height;
            if (inside && !model.at(column, row) && model.told(2) < MOST_BLACK) {
                put(column, row, true);
            }
        }
    }
}
