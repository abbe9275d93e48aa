/**
 * A picture of black and white thinned to lines, with the strokes of these lines, what goes on
 * straight through a crossing, and discs by which the picture may be drawn again.
 */
public final class ThinStrokes {
    public static final int NONE = -1;

    private static final int LARGEST = 24;
    private static final int LONGEST_CUT = 600;
    private static final int STEPS_AHEAD = 3;
    private static final int CROSSING_DEGREE = 3;

    // A place is a sample's row and column in one int; by shifts no divisor is ever needed.
    private static final int ROW_SHIFT = 5;
    private static final int COLUMN_MASK = 31;

    // The eight neighbours round from above; sides have even numbers, corners odd ones.
    private static final int NEIGHBOURS = 8;
    private static final int ABOVE = 0;
    private static final int RIGHT = 2;
    private static final int BELOW = 4;
    private static final int LEFT = 6;
    private static final int[] ROUND_X = {0, 1, 1, 1, 0, -1, -1, -1};
    private static final int[] ROUND_Y = {-1, -1, 0, 1, 1, 1, 0, -1};

    private final Samples picture;
    private final Samples lines;
    private final Samples bare;
    private final Thinning thinning;
    private final Tracing tracing;
    private final Groups groups;
    private boolean thinned;

    public ThinStrokes(int width, int height) {
        int columns = nearestSize(width);
        int rows = nearestSize(height);
        picture = new Samples(columns, rows);
        lines = new Samples(columns, rows);
        bare = new Samples(columns, rows);
        thinning = new Thinning(columns * rows);
        tracing = new Tracing(columns, rows);
        groups = new Groups(columns, rows);
        thinned = false;
    }

    public boolean put(int x, int y, boolean on) throws IndexOutOfBoundsException {
        requireSample(x, y);
        boolean was = picture.isBlack(x, y);
        picture.paint(x, y, on);
        lines.copyFrom(picture);
        thinned = false;
        return was != on;
    }

    public int thin() {
        int passes = thinning.passesOver(lines);
        tracing.trace(lines);
        thinned = true;
        return passes;
    }

    public boolean at(int x, int y) throws IndexOutOfBoundsException {
        requireSample(x, y);
        return lines.isBlack(x, y);
    }

    public int prune(int length) throws IllegalStateException, IllegalArgumentException {
        requireThinned();
        if (length < 0 || length > LONGEST_CUT) {
            throw new IllegalArgumentException("the length is not 0 .. 600");
        }
        int gone = tracing.cutShort(lines, length);
        tracing.trace(lines);
        return gone;
    }

    public int strokes() throws IllegalStateException {
        requireThinned();
        return tracing.strokeCount();
    }

    public int points(int stroke) throws IllegalStateException, IndexOutOfBoundsException {
        requireThinned();
        requireStroke(stroke);
        return tracing.lengthOf(stroke);
    }

    public int place(int stroke, int k, int axis)
            throws IllegalStateException, IndexOutOfBoundsException {
        requireThinned();
        requireStroke(stroke);
        if (k < 0 || k >= tracing.lengthOf(stroke)) {
            throw new IndexOutOfBoundsException("the stroke has no such sample");
        }
        if (axis != 0 && axis != 1) {
            throw new IndexOutOfBoundsException("there is no such axis");
        }
        int sample = tracing.sampleOf(stroke, k);
        return axis == 0 ? columnOf(sample) : rowOf(sample);
    }

    public long distance2(int x, int y) throws IndexOutOfBoundsException {
        requireSample(x, y);
        return picture.nearestWhite2(x, y);
    }

    public int crossing(int k, int what)
            throws IllegalStateException, IndexOutOfBoundsException, IllegalArgumentException {
        requireThinned();
        if (k < 0 || k >= tracing.crossingCount()) {
            throw new IndexOutOfBoundsException("there is no such crossing");
        }
        int sample = tracing.crossingPlace(k);
        switch (what) {
            case 0:
                return columnOf(sample);
            case 1:
                return rowOf(sample);
            case 2:
                return tracing.degreeOf(sample);
            default:
                throw new IllegalArgumentException("of a crossing, this is not told");
        }
    }

    public int joined(int stroke) throws IllegalStateException, IndexOutOfBoundsException {
        requireThinned();
        requireStroke(stroke);
        return tracing.straightOn(stroke);
    }

    public int parts() {
        return groups.blackGroups(lines);
    }

    public int holes() {
        return groups.closedWhiteGroups(lines);
    }

    public int draw() throws IllegalStateException {
        requireThinned();
        bare.copyFrom(picture);
        for (int y = 0; y < lines.height; y++) {
            for (int x = 0; x < lines.width; x++) {
                if (lines.isBlack(x, y)) {
                    bare.whitenDisc(x, y, picture.nearestWhite2(x, y));
                }
            }
        }
        return bare.blackCount();
    }

    public int told(int what) {
        switch (what) {
            case 0:
                return picture.width;
            case 1:
                return picture.height;
            case 2:
                return picture.blackCount();
            case 3:
                return lines.blackCount();
            case 4:
                return thinned ? 1 : 0;
            default:
                return NONE;
        }
    }

    public void clear() {
        picture.whiten();
        lines.whiten();
        thinned = false;
    }

    private void requireSample(int x, int y) {
        if (!picture.has(x, y)) {
            throw new IndexOutOfBoundsException("there is no such sample");
        }
    }

    private void requireThinned() {
        if (!thinned) {
            throw new IllegalStateException("it was not thinned since the picture changed");
        }
    }

    private void requireStroke(int stroke) {
        if (stroke < 0 || stroke >= tracing.strokeCount()) {
            throw new IndexOutOfBoundsException("there is no such stroke");
        }
    }

    private static int nearestSize(int size) {
        return Math.max(1, Math.min(LARGEST, size));
    }

    private static int placeOf(int x, int y) {
        return y << ROW_SHIFT | x;
    }

    private static int columnOf(int place) {
        return place & COLUMN_MASK;
    }

    private static int rowOf(int place) {
        return place >> ROW_SHIFT;
    }

    private static int opposite(int direction) {
        return direction + 4 & 7;
    }

    private static boolean hasBit(int bits, int number) {
        return (bits >> (number & 7) & 1) != 0;
    }

    /** Black and white samples; whatever lies beyond them counts as white. */
    private static final class Samples {
        final int width;
        final int height;
        // Bit x of a row is set where its sample x is black.
        private final int[] rows;

        Samples(int width, int height) {
            this.width = nearestSize(width);
            this.height = nearestSize(height);
            rows = new int[this.height];
        }

        boolean has(int x, int y) {
            return x >= 0 && x < width && y >= 0 && y < height;
        }

        boolean isBlack(int x, int y) {
            return has(x, y) && (rows[y] >> x & 1) != 0;
        }

        void paint(int x, int y, boolean on) {
            if (!has(x, y)) {
                return;
            }
            rows[y] = on ? rows[y] | 1 << x : rows[y] & ~(1 << x);
        }

        void whiten() {
            for (int y = 0; y < rows.length; y++) {
                rows[y] = 0;
            }
        }

        void copyFrom(Samples other) {
            for (int y = 0; y < rows.length && y < other.rows.length; y++) {
                rows[y] = other.rows[y];
            }
        }

        int blackCount() {
            int count = 0;
            for (int y = 0; y < rows.length; y++) {
                count += Integer.bitCount(rows[y]);
            }
            return count;
        }

        /** Bit d is set where neighbour d is black. */
        int blackRound(int x, int y) {
            int bits = 0;
            for (int d = 0; d < NEIGHBOURS; d++) {
                if (isBlack(x + ROUND_X[d], y + ROUND_Y[d])) {
                    bits |= 1 << d;
                }
            }
            return bits;
        }

        /** Bit d is set where the sample is linked with neighbour d; white ones have no links. */
        int linksAt(int x, int y) {
            if (!isBlack(x, y)) {
                return 0;
            }
            int round = blackRound(x, y);
            int links = 0;
            for (int d = 0; d < NEIGHBOURS; d++) {
                boolean corner = (d & 1) != 0;
                boolean goneRound = corner && (hasBit(round, d - 1) || hasBit(round, d + 1));
                if (hasBit(round, d) && !goneRound) {
                    links |= 1 << d;
                }
            }
            return links;
        }

        long nearestWhite2(int x, int y) {
            if (!isBlack(x, y)) {
                return 0;
            }
            // What is beyond is white, so only what is nearer than the edge has to be looked at.
            int edge = Math.min(Math.min(x + 1, width - x), Math.min(y + 1, height - y));
            int nearest = edge * edge;
            for (int dy = 1 - edge; dy < edge; dy++) {
                for (int dx = 1 - edge; dx < edge; dx++) {
                    if (!isBlack(x + dx, y + dy)) {
                        nearest = Math.min(nearest, dx * dx + dy * dy);
                    }
                }
            }
            return nearest;
        }

        /** Whitens all that are nearer to the middle than the root of radius2. */
        void whitenDisc(int x, int y, long radius2) {
            int reach = 0;
            while (reach < LARGEST && (reach + 1) * (reach + 1) < radius2) {
                reach++;
            }
            for (int dy = -reach; dy <= reach; dy++) {
                for (int dx = -reach; dx <= reach; dx++) {
                    if (dx * dx + dy * dy < radius2) {
                        paint(x + dx, y + dy, false);
                    }
                }
            }
        }
    }

    /** Takes samples off the sides of what is black, till only lines are left. */
    private static final class Thinning {
        private final int[] coming;

        Thinning(int area) {
            coming = new int[Math.max(1, area)];
        }

        /** How many passes took something. */
        int passesOver(Samples lines) {
            int passes = 0;
            // Each pass but the last takes a sample at least, so there are no more than samples.
            for (int n = 0; n <= coming.length; n++) {
                int taken = takeHalf(lines, ABOVE, LEFT) + takeHalf(lines, BELOW, RIGHT);
                if (taken == 0) {
                    break;
                }
                passes++;
            }
            return passes;
        }

        private int takeHalf(Samples lines, int side, int otherSide) {
            int count = collect(lines, side, otherSide);
            int taken = 0;
            for (int n = 0; n < count && n < coming.length; n++) {
                int x = columnOf(coming[n]);
                int y = rowOf(coming[n]);
                if (lines.isBlack(x, y) && mayGo(lines.blackRound(x, y))) {
                    lines.paint(x, y, false);
                    taken++;
                }
            }
            return taken;
        }

        // All are found before the first one goes: what goes first must not call others in.
        private int collect(Samples lines, int side, int otherSide) {
            int count = 0;
            for (int y = 0; y < lines.height; y++) {
                for (int x = 0; x < lines.width; x++) {
                    if (!lines.isBlack(x, y)) {
                        continue;
                    }
                    int round = lines.blackRound(x, y);
                    boolean open = !hasBit(round, side) || !hasBit(round, otherSide);
                    if (open && mayGo(round) && count < coming.length) {
                        coming[count] = placeOf(x, y);
                        count++;
                    }
                }
            }
            return count;
        }

        private static boolean mayGo(int round) {
            boolean isEnd = Integer.bitCount(round) == 1;
            return !isEnd && isSimple(round);
        }

        private static boolean isSimple(int round) {
            int count = 0;
            for (int d = 0; d < NEIGHBOURS; d += 2) {
                if (!hasBit(round, d) && (hasBit(round, d + 1) || hasBit(round, d + 2))) {
                    count++;
                }
            }
            return count == 1;
        }
    }

    /** The strokes of the lines, as they were when they were traced last. */
    private static final class Tracing {
        // By place: bit d is set for a link with neighbour d, and for one that is in a stroke.
        private final int[] links;
        private final int[] taken;
        // The places of all strokes, one stroke after the other; stroke s has those from begins[s]
        // on, up to begins[s + 1]; begins[0] stays 0.
        private final int[] samples;
        private final int[] begins;
        private final int[] crossings;
        private int strokeCount;
        private int sampleCount;
        private int crossingCount;

        Tracing(int width, int height) {
            int rows = nearestSize(height);
            int area = nearestSize(width) * rows;
            links = new int[rows << ROW_SHIFT];
            taken = new int[rows << ROW_SHIFT];
            // Of two neighbours that are next to one another just one is linked, so a sample has 4
            // links at most, and all together have 2 for each; a stroke has a link, or is alone.
            samples = new int[4 * area];
            begins = new int[2 * area + 1];
            crossings = new int[area];
        }

        int strokeCount() {
            return strokeCount;
        }

        int crossingCount() {
            return crossingCount;
        }

        int crossingPlace(int k) {
            return k >= 0 && k < crossingCount && k < crossings.length ? crossings[k] : NONE;
        }

        int lengthOf(int stroke) {
            if (stroke < 0 || stroke >= strokeCount || stroke + 1 >= begins.length) {
                return 0;
            }
            return begins[stroke + 1] - begins[stroke];
        }

        int sampleOf(int stroke, int k) {
            if (k < 0 || k >= lengthOf(stroke)) {
                return NONE;
            }
            int index = begins[stroke] + k;
            return index >= 0 && index < samples.length ? samples[index] : NONE;
        }

        int degreeOf(int place) {
            return Integer.bitCount(linksOf(place));
        }

        void trace(Samples lines) {
            strokeCount = 0;
            sampleCount = 0;
            crossingCount = 0;
            findLinks(lines);
            findCrossings(lines);
            followFromNodes(lines);
            followRound(lines);
        }

        /** Takes short strokes out of the lines; how many samples went. */
        int cutShort(Samples lines, int length) {
            int gone = 0;
            for (int stroke = 0; stroke < strokeCount; stroke++) {
                int crossing = crossingOfLooseStroke(stroke);
                if (crossing != NONE && lengthOf(stroke) - 1 < length
                        && isCrossingIn(lines, crossing)) {
                    gone += cut(lines, stroke, crossing);
                }
            }
            return gone;
        }

        /** The stroke that goes on where this one ends, or NONE. */
        int straightOn(int stroke) {
            int crossing = lastOf(stroke);
            if (degreeOf(crossing) < CROSSING_DEGREE) {
                return NONE;
            }
            int own = aheadOf(stroke, crossing);
            int best = NONE;
            int bestDot = 0;
            int bestLength2 = 1;
            for (int other = 0; other < strokeCount; other++) {
                if (other == stroke || !touches(other, crossing)) {
                    continue;
                }
                int ahead = aheadOf(other, crossing);
                int dot = dot(crossing, own, ahead);
                int length2 = dot(crossing, ahead, ahead);
                // Cosines below 0 are compared by their squares, so that no root is needed.
                if (dot < 0 && dot * dot * bestLength2 > bestDot * bestDot * length2) {
                    best = other;
                    bestDot = dot;
                    bestLength2 = length2;
                }
            }
            return best;
        }

        private void findLinks(Samples lines) {
            for (int n = 0; n < links.length && n < taken.length; n++) {
                links[n] = lines.linksAt(columnOf(n), rowOf(n));
                taken[n] = 0;
            }
        }

        private void findCrossings(Samples lines) {
            for (int y = 0; y < lines.height; y++) {
                for (int x = 0; x < lines.width; x++) {
                    int place = placeOf(x, y);
                    if (degreeOf(place) >= CROSSING_DEGREE && crossingCount < crossings.length) {
                        crossings[crossingCount] = place;
                        crossingCount++;
                    }
                }
            }
        }

        private void followFromNodes(Samples lines) {
            for (int y = 0; y < lines.height; y++) {
                for (int x = 0; x < lines.width; x++) {
                    if (lines.isBlack(x, y) && degreeOf(placeOf(x, y)) != 2) {
                        followFromNode(placeOf(x, y));
                    }
                }
            }
        }

        private void followFromNode(int node) {
            if (degreeOf(node) == 0) {
                addSample(node);
                endStroke();
            }
            for (int d = 0; d < NEIGHBOURS; d++) {
                if (hasBit(linksOf(node), d) && !hasBit(takenOf(node), d)) {
                    follow(node, d);
                }
            }
        }

        // What is left when all nodes have been followed are rings of samples of degree 2.
        private void followRound(Samples lines) {
            for (int y = 0; y < lines.height; y++) {
                for (int x = 0; x < lines.width; x++) {
                    int place = placeOf(x, y);
                    if (degreeOf(place) == 2 && takenOf(place) == 0) {
                        follow(place, firstDirection(linksOf(place)));
                    }
                }
            }
        }

        private void follow(int start, int away) {
            int place = start;
            int direction = away;
            addSample(start);
            for (int n = 0; n < samples.length; n++) {
                take(place, direction);
                place = stepFrom(place, direction);
                take(place, opposite(direction));
                if (place == start && degreeOf(start) == 2) {
                    break;
                }
                addSample(place);
                if (degreeOf(place) != 2) {
                    break;
                }
                direction = firstDirection(linksOf(place) & ~(1 << opposite(direction)));
            }
            endStroke();
        }

        private void addSample(int place) {
            if (sampleCount < samples.length) {
                samples[sampleCount] = place;
                sampleCount++;
            }
        }

        private void endStroke() {
            if (strokeCount + 1 < begins.length) {
                strokeCount++;
                begins[strokeCount] = sampleCount;
            }
        }

        private int linksOf(int place) {
            return place >= 0 && place < links.length ? links[place] : 0;
        }

        private int takenOf(int place) {
            return place >= 0 && place < taken.length ? taken[place] : 0;
        }

        private void take(int place, int direction) {
            if (place >= 0 && place < taken.length) {
                taken[place] |= 1 << direction;
            }
        }

        private static int firstDirection(int bits) {
            for (int d = 0; d < NEIGHBOURS; d++) {
                if (hasBit(bits, d)) {
                    return d;
                }
            }
            return 0;
        }

        private static int stepFrom(int place, int direction) {
            int d = direction & 7;
            return placeOf(columnOf(place) + ROUND_X[d], rowOf(place) + ROUND_Y[d]);
        }

        private int firstOf(int stroke) {
            return sampleOf(stroke, 0);
        }

        private int lastOf(int stroke) {
            return sampleOf(stroke, lengthOf(stroke) - 1);
        }

        private boolean touches(int stroke, int crossing) {
            return firstOf(stroke) == crossing || lastOf(stroke) == crossing;
        }

        /** The crossing of a stroke whose other end is loose, or NONE. */
        private int crossingOfLooseStroke(int stroke) {
            int first = firstOf(stroke);
            int last = lastOf(stroke);
            if (degreeOf(first) == 1 && degreeOf(last) >= CROSSING_DEGREE) {
                return last;
            }
            if (degreeOf(last) == 1 && degreeOf(first) >= CROSSING_DEGREE) {
                return first;
            }
            return NONE;
        }

        // Strokes that went before may have left fewer links than were traced.
        private static boolean isCrossingIn(Samples lines, int place) {
            int now = lines.linksAt(columnOf(place), rowOf(place));
            return Integer.bitCount(now) >= CROSSING_DEGREE;
        }

        private int cut(Samples lines, int stroke, int crossing) {
            int gone = 0;
            for (int k = 0; k < lengthOf(stroke); k++) {
                int place = sampleOf(stroke, k);
                if (place != crossing) {
                    lines.paint(columnOf(place), rowOf(place), false);
                    gone++;
                }
            }
            return gone;
        }

        /** The sample of a stroke that tells its direction at a crossing where it begins or ends. */
        private int aheadOf(int stroke, int crossing) {
            int end = lengthOf(stroke) - 1;
            int steps = Math.min(STEPS_AHEAD, end);
            return sampleOf(stroke, firstOf(stroke) == crossing ? steps : end - steps);
        }

        private static int dot(int from, int a, int b) {
            int x = (columnOf(a) - columnOf(from)) * (columnOf(b) - columnOf(from));
            int y = (rowOf(a) - rowOf(from)) * (rowOf(b) - rowOf(from));
            return x + y;
        }
    }

    /** Counts groups of samples that hang together. */
    private static final class Groups {
        private final Samples met;
        private final int[] queue;
        private int queued;

        Groups(int width, int height) {
            met = new Samples(width, height);
            queue = new int[met.width * met.height];
        }

        int blackGroups(Samples lines) {
            met.whiten();
            int count = 0;
            for (int y = 0; y < lines.height; y++) {
                for (int x = 0; x < lines.width; x++) {
                    if (lines.isBlack(x, y) && !met.isBlack(x, y)) {
                        meetGroup(lines, x, y);
                        count++;
                    }
                }
            }
            return count;
        }

        int closedWhiteGroups(Samples lines) {
            met.whiten();
            int count = 0;
            for (int y = 0; y < lines.height; y++) {
                for (int x = 0; x < lines.width; x++) {
                    if (!lines.isBlack(x, y) && !met.isBlack(x, y)
                            && !meetGroup(lines, x, y)) {
                        count++;
                    }
                }
            }
            return count;
        }

        /** Meets all of a sample's group; whether that comes to what is beyond the picture. */
        private boolean meetGroup(Samples lines, int x, int y) {
            boolean black = lines.isBlack(x, y);
            // White hangs together by sides alone, and those have the even numbers.
            int next = black ? 1 : 2;
            boolean comesBeyond = false;
            queued = 0;
            meet(x, y);
            for (int n = 0; n < queued && n < queue.length; n++) {
                for (int d = 0; d < NEIGHBOURS; d += next) {
                    int column = columnOf(queue[n]) + ROUND_X[d];
                    int row = rowOf(queue[n]) + ROUND_Y[d];
                    if (!lines.has(column, row)) {
                        comesBeyond = true;
                    } else if (lines.isBlack(column, row) == black) {
                        meet(column, row);
                    }
                }
            }
            return comesBeyond;
        }

        private void meet(int x, int y) {
            if (!met.isBlack(x, y) && queued < queue.length) {
                met.paint(x, y, true);
                queue[queued] = placeOf(x, y);
                queued++;
            }
        }
    }
}
