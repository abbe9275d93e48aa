import java.util.ArrayDeque;
import java.util.ArrayList;
import java.util.Collections;
import java.util.Deque;
import java.util.HashMap;
import java.util.HashSet;
import java.util.LinkedHashSet;
import java.util.List;
import java.util.Map;
import java.util.Set;
import java.util.TreeMap;
import java.util.TreeSet;

/**
 * The document once more, written another way: samples are members of sets, ordered by rows. It is
 * slow, and there to be compared with.
 */
final class Model implements Face {
    record Sample(int y, int x) implements Comparable<Sample> {
        public int compareTo(Sample other) {
            return y != other.y ? Integer.compare(y, other.y) : Integer.compare(x, other.x);
        }

        List<Sample> round() {
            return List.of(new Sample(y - 1, x), new Sample(y - 1, x + 1), new Sample(y, x + 1),
                    new Sample(y + 1, x + 1), new Sample(y + 1, x), new Sample(y + 1, x - 1),
                    new Sample(y, x - 1), new Sample(y - 1, x - 1));
        }

        boolean sideBySide(Sample other) {
            return Math.abs(y - other.y) + Math.abs(x - other.x) == 1;
        }

        int square(Sample other) {
            return (y - other.y) * (y - other.y) + (x - other.x) * (x - other.x);
        }
    }

    private final int width;
    private final int height;
    private final TreeSet<Sample> picture = new TreeSet<>();
    private final Map<Sample, Long> distances = new HashMap<>();
    private TreeSet<Sample> lines = new TreeSet<>();
    private List<List<Sample>> strokes = null;
    private boolean thinned = false;

    Model(int width, int height) {
        this.width = width < 1 ? 1 : width > 24 ? 24 : width;
        this.height = height < 1 ? 1 : height > 24 ? 24 : height;
    }

    private void requireSample(int x, int y) {
        if (x < 0 || x >= width || y < 0 || y >= height) {
            throw new IndexOutOfBoundsException();
        }
    }

    private void requireThinned() {
        if (!thinned) {
            throw new IllegalStateException();
        }
    }

    private <T> T oneOf(List<T> list, int k) {
        if (k < 0 || k >= list.size()) {
            throw new IndexOutOfBoundsException();
        }
        return list.get(k);
    }

    @Override
    public boolean put(int x, int y, boolean on) {
        requireSample(x, y);
        boolean changed = on ? picture.add(new Sample(y, x)) : picture.remove(new Sample(y, x));
        lines = new TreeSet<>(picture);
        thinned = false;
        distances.clear();
        return changed;
    }

    @Override
    public boolean at(int x, int y) {
        requireSample(x, y);
        return lines.contains(new Sample(y, x));
    }

    private boolean end(Sample s) {
        return s.round().stream().filter(lines::contains).count() == 1;
    }

    private boolean simple(Sample s) {
        List<Sample> r = s.round();
        int such = 0;
        for (int side : new int[] {0, 2, 4, 6}) {
            boolean white = !lines.contains(r.get(side));
            boolean next = lines.contains(r.get(side + 1));
            boolean second = lines.contains(r.get(side == 6 ? 0 : side + 2));
            such += white && (next || second) ? 1 : 0;
        }
        return such == 1;
    }

    private boolean half(int side, int other) {
        List<Sample> come = new ArrayList<>();
        for (Sample s : lines) {
            boolean open = !lines.contains(s.round().get(side)) || !lines.contains(s.round().get(other));
            if (open && !end(s) && simple(s)) {
                come.add(s);
            }
        }
        boolean took = false;
        for (Sample s : come) {
            if (lines.contains(s) && !end(s) && simple(s)) {
                lines.remove(s);
                took = true;
            }
        }
        return took;
    }

    @Override
    public int thin() {
        int passes = 0;
        while (half(0, 6) | half(4, 2)) {
            passes++;
        }
        thinned = true;
        strokes = null;
        return passes;
    }

    private boolean linked(Sample a, Sample b) {
        if (!lines.contains(a) || !lines.contains(b)) {
            return false;
        }
        if (a.sideBySide(b)) {
            return true;
        }
        boolean corner = Math.abs(a.y - b.y) == 1 && Math.abs(a.x - b.x) == 1;
        return corner && !lines.contains(new Sample(a.y, b.x)) && !lines.contains(new Sample(b.y, a.x));
    }

    private List<Sample> linksOf(Sample s) {
        return s.round().stream().filter(o -> linked(s, o)).toList();
    }

    private int degree(Sample s) {
        return linksOf(s).size();
    }

    private List<List<Sample>> allStrokes() {
        requireThinned();
        if (strokes == null) {
            strokes = follow();
        }
        return strokes;
    }

    private List<List<Sample>> follow() {
        List<List<Sample>> all = new ArrayList<>();
        Set<Set<Sample>> used = new HashSet<>();
        Set<Sample> inStroke = new HashSet<>();
        for (Sample node : lines) {
            if (degree(node) == 2) {
                continue;
            }
            if (degree(node) == 0) {
                all.add(List.of(node));
            }
            for (Sample next : linksOf(node)) {
                if (!used.contains(Set.of(node, next))) {
                    List<Sample> stroke = new ArrayList<>(List.of(node, next));
                    used.add(Set.of(node, next));
                    while (degree(last(stroke)) == 2) {
                        Sample at = last(stroke);
                        Sample before = stroke.get(stroke.size() - 2);
                        Sample on = linksOf(at).stream().filter(o -> !o.equals(before)).findFirst().get();
                        used.add(Set.of(at, on));
                        stroke.add(on);
                    }
                    all.add(stroke);
                }
            }
        }
        all.forEach(inStroke::addAll);
        for (Sample start : lines) {
            if (inStroke.contains(start)) {
                continue;
            }
            LinkedHashSet<Sample> ring = new LinkedHashSet<>(List.of(start));
            Sample at = linksOf(start).get(0);
            while (at != null) {
                ring.add(at);
                Sample here = at;
                at = linksOf(here).stream().filter(o -> !ring.contains(o)).findFirst().orElse(null);
            }
            inStroke.addAll(ring);
            all.add(new ArrayList<>(ring));
        }
        return all;
    }

    private static Sample last(List<Sample> stroke) {
        return stroke.get(stroke.size() - 1);
    }

    @Override
    public int strokes() {
        return allStrokes().size();
    }

    @Override
    public int points(int stroke) {
        return oneOf(allStrokes(), stroke).size();
    }

    @Override
    public int place(int stroke, int k, int axis) {
        Sample s = oneOf(oneOf(allStrokes(), stroke), k);
        return oneOf(List.of(s.x, s.y), axis);
    }

    @Override
    public int crossing(int k, int what) {
        requireThinned();
        Sample s = oneOf(lines.stream().filter(o -> degree(o) >= 3).toList(), k);
        if (what < 0 || what > 2) {
            throw new IllegalArgumentException();
        }
        return List.of(s.x, s.y, degree(s)).get(what);
    }

    @Override
    public int prune(int length) {
        requireThinned();
        if (length < 0 || length > 600) {
            throw new IllegalArgumentException();
        }
        int before = lines.size();
        List<List<Sample>> cut = new ArrayList<>();
        for (List<Sample> stroke : allStrokes()) {
            List<Sample> turned = new ArrayList<>(stroke);
            if (degree(turned.get(0)) != 1) {
                Collections.reverse(turned);
            }
            if (degree(turned.get(0)) == 1 && degree(last(turned)) >= 3 && turned.size() - 1 < length) {
                cut.add(turned);
            }
        }
        for (List<Sample> stroke : cut) {
            if (degree(last(stroke)) >= 3) {
                stroke.subList(0, stroke.size() - 1).forEach(lines::remove);
            }
        }
        strokes = null;
        return before - lines.size();
    }

    private static int[] direction(List<Sample> stroke, Sample crossing) {
        List<Sample> from = new ArrayList<>(stroke);
        if (!from.get(0).equals(crossing)) {
            Collections.reverse(from);
        }
        Sample ahead = from.get(Math.min(3, from.size() - 1));
        return new int[] {ahead.x - crossing.x, ahead.y - crossing.y};
    }

    @Override
    public int joined(int stroke) {
        List<List<Sample>> all = allStrokes();
        Sample crossing = last(oneOf(all, stroke));
        if (degree(crossing) < 3) {
            return -1;
        }
        int[] own = direction(all.get(stroke), crossing);
        // Angles by the machine's roots; 1e-9 lies far below any two that differ.
        TreeMap<Double, Integer> byAngle = new TreeMap<>();
        for (int s = 0; s < all.size(); s++) {
            boolean here = all.get(s).get(0).equals(crossing) || last(all.get(s)).equals(crossing);
            if (s == stroke || !here) {
                continue;
            }
            int[] other = direction(all.get(s), crossing);
            double angle = Math.abs(Math.atan2(own[0] * other[1] - own[1] * other[0],
                    own[0] * other[0] + own[1] * other[1]));
            if (angle > Math.PI / 2 + 1e-9) {
                byAngle.putIfAbsent(Math.rint(angle * 1e9), s);
            }
        }
        return byAngle.isEmpty() ? -1 : byAngle.lastEntry().getValue();
    }

    @Override
    public long distance2(int x, int y) {
        requireSample(x, y);
        return distances.computeIfAbsent(new Sample(y, x), this::nearestWhite2);
    }

    private long nearestWhite2(Sample s) {
        long nearest = Long.MAX_VALUE;
        for (int row = -1; row <= height; row++) {
            for (int column = -1; column <= width; column++) {
                if (!picture.contains(new Sample(row, column))) {
                    nearest = Math.min(nearest, s.square(new Sample(row, column)));
                }
            }
        }
        return nearest;
    }

    @Override
    public int draw() {
        requireThinned();
        Set<Sample> bare = new HashSet<>(picture);
        for (Sample s : lines) {
            long near = distance2(s.x, s.y);
            bare.removeIf(o -> s.square(o) < near);
        }
        return bare.size();
    }

    @Override
    public int parts() {
        return groups(new TreeSet<>(lines), false);
    }

    // The white of the picture with a frame of what is beyond, whose group is no hole.
    @Override
    public int holes() {
        TreeSet<Sample> white = new TreeSet<>();
        for (int row = -1; row <= height; row++) {
            for (int column = -1; column <= width; column++) {
                white.add(new Sample(row, column));
            }
        }
        white.removeAll(lines);
        return groups(white, true) - 1;
    }

    private static int groups(TreeSet<Sample> left, boolean bySidesAlone) {
        int count = 0;
        while (!left.isEmpty()) {
            Deque<Sample> open = new ArrayDeque<>(List.of(left.pollFirst()));
            while (!open.isEmpty()) {
                Sample at = open.pop();
                for (Sample o : at.round()) {
                    if ((!bySidesAlone || at.sideBySide(o)) && left.remove(o)) {
                        open.push(o);
                    }
                }
            }
            count++;
        }
        return count;
    }

    @Override
    public int told(int what) {
        int[] all = {width, height, picture.size(), lines.size(), thinned ? 1 : 0};
        return what < 0 || what >= all.length ? -1 : all[what];
    }

    @Override
    public void clear() {
        picture.clear();
        lines.clear();
        distances.clear();
        thinned = false;
    }
}
