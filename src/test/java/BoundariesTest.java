import java.util.function.Consumer;

/**
 * The boundary cases that the promises name: too small, too large, empty, full, refused. Each
 * sentence, quoted, has its own test; those of the 'Terms' stand in TermsTest.
 */
public final class BoundariesTest {
    private static final Checks CHECKS = new Checks();
    private static final int LEAST = Integer.MIN_VALUE;
    private static final int MOST = Integer.MAX_VALUE;
    // What is never a column or row, a stroke or a place of it: some would be one if bits were lost.
    private static final int[] OUTSIDE = {-1, -2, -24, -32, LEAST, LEAST + 1, 600, 1 << 16, 1 << 27, MOST};

    // 23 in row 0, 22 in each of the next eight, 11 in the last, nine between them, and 11,19.
    private static final int SNAKE = 23 + 8 * 22 + 11 + 9 + 1;

    // Three arms of two samples each; the crossing is at 2,2.
    private static final String[] FORK = {
        "..#..",
        "..#..",
        "..#..",
        ".#.#.",
        "#...#"};
    private static final String[] BRIDGE = {
        "#.....#",
        ".#...#.",
        "..###..",
        ".#...#.",
        "#.....#"};
    private static final String[] RING = {
        ".#.",
        "#.#",
        ".#."};

    public static void main(String[] args) {
        exceptions();
        newObject();
        put();
        thin();
        at();
        prune();
        strokes();
        points();
        place();
        distance2();
        crossing();
        joined();
        parts();
        holes();
        draw();
        told();
        clear();
        CHECKS.end("BoundariesTest");
    }

    /** Black where column and row are both even or both odd: 24 by 24, and as full as lines can be. */
    private static Subject checkered() {
        Subject x = new Subject(24, 24);
        for (int n = 0; n < 576; n++) {
            if ((n % 24 + n / 24) % 2 == 0) {
                x.put(n % 24, n / 24, true);
            }
        }
        return x;
    }

    /** Each second sample of each second row. */
    private static Subject dotted() {
        Subject x = new Subject(24, 24);
        for (int n = 0; n < 144; n++) {
            x.put(n % 12 * 2, n / 12 * 2, true);
        }
        return x;
    }

    // To and fro by rows 0, 2, .. 18, then down to a crossing at 11,20 that has two arms of one.
    private static Subject snake() {
        Subject x = new Subject(24, 24);
        for (int row = 0; row <= 18; row += 2) {
            int first = row == 0 ? 0 : row == 18 ? 12 : 1;
            for (int column = first; column <= 22; column++) {
                x.put(column, row, true);
            }
            if (row < 18) {
                x.put(row % 4 == 0 ? 23 : 0, row + 1, true);
            }
        }
        x.put(11, 19, true);
        x.put(11, 20, true);
        x.put(10, 21, true);
        x.put(12, 21, true);
        return x;
    }

    // ---- What the terms say of exceptions.

    private static void exceptions() {
        notThinnedSinceThePictureChanged();
        ofSeveralTheFirstOne();
        aCallThatThrowsChangesNothing();
    }

    private static void dueAsking(String when, Face x, boolean thinned) {
        String want = thinned ? "answered" : "java.lang.IllegalStateException";
        Checks.Call[] calls = {
            () -> x.prune(0), x::strokes, () -> x.points(0), () -> x.place(0, 0, 0),
            () -> x.crossing(0, 0), () -> x.joined(0), x::draw};
        for (int n = 0; n < calls.length; n++) {
            Object answer = Checks.answerOf(calls[n]);
            CHECKS.due(when + ", call " + n, answer instanceof Integer ? "answered" : answer, want);
        }
    }

    // "IllegalState: it was not thinned since the picture changed."
    private static void notThinnedSinceThePictureChanged() {
        dueAsking("new", new Subject(5, 5), false);
        Subject x = Checks.of(FORK);
        dueAsking("painted", x, false);
        x.thin();
        dueAsking("thinned", x, true);
        x.prune(0);
        dueAsking("pruned", x, true);
        x.thin();
        dueAsking("thinned again", x, true);
        Checks.answerOf(() -> x.put(5, 0, true));
        dueAsking("after a put that is refused", x, true);
        x.put(2, 2, true);
        dueAsking("after a put", x, false);
        x.thin();
        dueAsking("thinned after a put", x, true);
        x.clear();
        dueAsking("cleared", x, false);
    }

    // "Of several that a call names, the first one."
    private static void ofSeveralTheFirstOne() {
        Subject x = Checks.of(FORK);
        CHECKS.dueState("prune: state, argument", () -> x.prune(-1));
        CHECKS.dueState("points: state, bounds", () -> x.points(-1));
        CHECKS.dueState("place: state, bounds", () -> x.place(-1, -1, -1));
        CHECKS.dueState("crossing: state, bounds", () -> x.crossing(-1, 0));
        CHECKS.dueState("crossing: state, argument", () -> x.crossing(0, 3));
        CHECKS.dueState("crossing: state, bounds, argument", () -> x.crossing(-1, 3));
        CHECKS.dueState("joined: state, bounds", () -> x.joined(-1));
        x.thin();
        CHECKS.dueBounds("crossing: bounds, argument", () -> x.crossing(1, 3));
        CHECKS.dueBounds("crossing: bounds, argument, below", () -> x.crossing(-1, -1));
        CHECKS.dueArgument("crossing: argument", () -> x.crossing(0, 3));
    }

    // "A call that throws changes nothing."
    private static void aCallThatThrowsChangesNothing() {
        Subject painted = Checks.of("###", "###", "..#");
        dueUnchanged("painted", painted);
        Subject thinned = Checks.thinned(FORK);
        dueUnchanged("thinned", thinned);
        thinned.prune(3);
        dueUnchanged("pruned", thinned);
    }

    private static void dueUnchanged(String when, Face x) {
        String before = Checks.allOf(x);
        Checks.Call[] calls = {
            () -> x.put(-1, 0, true), () -> x.put(0, 24, false), () -> x.at(24, 0),
            () -> x.prune(-1), () -> x.prune(601), () -> x.points(99), () -> x.place(0, 99, 0),
            () -> x.place(0, 0, 2), () -> x.distance2(0, -1), () -> x.crossing(99, 0),
            () -> x.crossing(0, 3), () -> x.joined(-1)};
        for (int n = 0; n < calls.length; n++) {
            Object answer = Checks.answerOf(calls[n]);
            CHECKS.due(when + ", call " + n + " throws", answer instanceof String, true);
            CHECKS.due(when + ", call " + n + " changes nothing", Checks.allOf(x), before);
        }
    }

    private static void dueRefused(String what, Consumer<Integer> call) {
        for (int outside : OUTSIDE) {
            CHECKS.dueBounds(what + " " + outside, () -> {
                call.accept(outside);
                return "answered";
            });
        }
    }

    // ---- Promise 1.

    // "This width and height, 1 .. 24 (other numbers count as the nearest of these), all white."
    private static void newObject() {
        int[][] sizes = {
            {1, 1}, {2, 2}, {23, 23}, {24, 24}, {0, 1}, {-1, 1}, {LEAST, 1}, {25, 24}, {32, 24}, {MOST, 24}};
        for (int[] size : sizes) {
            CHECKS.due("width " + size[0], new Subject(size[0], 7).told(0), size[1]);
            CHECKS.due("its height", new Subject(size[0], 7).told(1), 7);
            CHECKS.due("height " + size[0], new Subject(7, size[0]).told(1), size[1]);
            CHECKS.due("its width", new Subject(7, size[0]).told(0), 7);
        }
        Subject least = new Subject(0, -5);
        CHECKS.due("too small: its one sample", least.put(0, 0, true), true);
        CHECKS.dueBounds("too small: no second column", () -> least.put(1, 0, true));
        CHECKS.dueBounds("too small: no second row", () -> least.put(0, 1, true));
        Subject largest = new Subject(99, 25);
        CHECKS.due("too large: its last sample", largest.put(23, 23, true), true);
        CHECKS.dueBounds("too large: no column more", () -> largest.put(24, 23, true));
        CHECKS.dueBounds("too large: no row more", () -> largest.put(23, 24, true));
        allWhite(new Subject(24, 24));
        allWhite(new Subject(1, 1));
    }

    private static void allWhite(Face x) {
        CHECKS.due("all white: the picture", x.told(2), 0);
        CHECKS.due("all white: the lines", x.told(3), 0);
        CHECKS.due("all white: parts", x.parts(), 0);
        CHECKS.due("all white: holes", x.holes(), 0);
        CHECKS.due("all white: not thinned", x.told(4), 0);
        CHECKS.due("all white: distance", x.distance2(0, 0), 0L);
    }

    // ---- Promise 2.

    private static void put() {
        putAtTheEdges();
        putBeyondTheEdges();
        putWhetherItWasAnotherWay();
        putAlsoIfItWasSo();
    }

    // "A sample of the picture is black or white": the one that is named, at the edges too.
    private static void putAtTheEdges() {
        int[][] corners = {{0, 0}, {23, 0}, {0, 23}, {23, 23}};
        for (int[] corner : corners) {
            Subject x = new Subject(24, 24);
            CHECKS.due("put at a corner", x.put(corner[0], corner[1], true), true);
            CHECKS.due("it is black", x.at(corner[0], corner[1]), true);
            CHECKS.due("it alone", x.told(2), 1);
            CHECKS.due("put white at a corner", x.put(corner[0], corner[1], false), true);
            CHECKS.due("none is left", x.told(2), 0);
        }
    }

    // "IndexOutOfBounds: there is no such sample."
    private static void putBeyondTheEdges() {
        Subject x = new Subject(24, 3);
        CHECKS.dueBounds("put, one to the right", () -> x.put(24, 0, true));
        CHECKS.dueBounds("put, one below", () -> x.put(0, 3, true));
        CHECKS.dueBounds("put of white, one below", () -> x.put(0, 3, false));
        dueRefused("put, column", n -> x.put(n, 0, true));
        dueRefused("put, row", n -> x.put(0, n, true));
        CHECKS.due("nothing is black", x.told(2), 0);
    }

    // "Whether it was another way": in the picture, not in the lines.
    private static void putWhetherItWasAnotherWay() {
        Subject x = Checks.thinned("##", "##");
        CHECKS.due("gone from the lines", x.at(0, 0), false);
        CHECKS.due("but black in the picture", x.put(0, 0, true), false);
        x.thin();
        CHECKS.due("so white is another way", x.put(0, 0, false), true);
        CHECKS.due("and white again is not", x.put(0, 0, false), false);
    }

    // "The lines are the picture then, not thinned (also if it was so)."
    private static void putAlsoIfItWasSo() {
        Subject black = Checks.thinned("###", "###");
        CHECKS.due("black on black", black.put(0, 0, true), false);
        CHECKS.due("the lines are the picture", Checks.linesOf(black), "###/###");
        CHECKS.due("not thinned", black.told(4), 0);
        Subject white = Checks.thinned("###.", "###.");
        CHECKS.due("white on white", white.put(3, 1, false), false);
        CHECKS.due("the lines are the picture", Checks.linesOf(white), "###./###.");
        CHECKS.due("not thinned", white.told(4), 0);
        Subject pruned = Checks.thinned(FORK);
        pruned.prune(3);
        pruned.put(0, 0, false);
        CHECKS.due("what was pruned is there again", Checks.linesOf(pruned), String.join("/", FORK));
    }

    // ---- Promise 3.

    private static void thin() {
        thinOfNothing();
        thinOfAllBlack();
        tillAPassTakesNothing();
        howManyPassesTookSomething();
        thinOfWhatWasPruned();
    }

    // "The lines are thinned", even if there are none.
    private static void thinOfNothing() {
        Subject x = new Subject(24, 24);
        CHECKS.due("thin() of nothing", x.thin(), 0);
        CHECKS.due("it is thinned", x.told(4), 1);
        CHECKS.due("no strokes", x.strokes(), 0);
        CHECKS.due("nothing to draw", x.draw(), 0);
        CHECKS.due("nothing to prune", x.prune(600), 0);
        Subject one = Checks.full(1, 1);
        CHECKS.due("thin() of the least picture", one.thin(), 0);
        CHECKS.due("its sample stays", one.at(0, 0), true);
    }

    private static void thinOfAllBlack() {
        CHECKS.due("thin() of a full row", Checks.full(24, 1).thin(), 0);
        CHECKS.due("thin() of a full column", Checks.full(1, 24).thin(), 0);
        Subject two = Checks.full(24, 2);
        CHECKS.due("thin() of two full rows", two.thin(), 1);
        CHECKS.due("the lower one is left", Checks.strokesOf(two).startsWith("0,1 1,1 2,1 "), true);
        CHECKS.due("and has all columns", two.points(0), 24);
        Subject pairs = new Subject(24, 24);
        for (int n = 0; n < 24 * 16; n++) {
            pairs.put(n % 24, n / 48 * 3 + n / 24 % 2, true);
        }
        CHECKS.due("thin() of eight times two full rows, all in one pass", pairs.thin(), 1);
        CHECKS.due("eight are left", pairs.told(3), 192);
        CHECKS.due("each of them whole", pairs.points(7), 24);
        // The first half takes a row above and a column left, the second one of each other side.
        Subject full = Checks.full(22, 22);
        CHECKS.due("thin() of a full square", full.thin(), 11);
        CHECKS.due("nothing fell apart", full.parts(), 1);
        CHECKS.due("no hole came", full.holes(), 0);
        CHECKS.due("the picture is as it was", full.told(2), 484);
    }

    // "Till a pass takes nothing."
    private static void tillAPassTakesNothing() {
        Subject x = Checks.full(9, 6);
        CHECKS.due("thin() takes more than a pass", x.thin() > 1, true);
        String lines = Checks.linesOf(x);
        CHECKS.due("thin() again", x.thin(), 0);
        CHECKS.due("takes nothing", Checks.linesOf(x), lines);
        CHECKS.due("it is thinned still", x.told(4), 1);
    }

    // "How many passes took something."
    private static void howManyPassesTookSomething() {
        CHECKS.due("none", Checks.of("###").thin(), 0);
        CHECKS.due("by the first half alone", Checks.of("###", "#..", "#..").thin(), 1);
        CHECKS.due("by the second half alone", Checks.of("..#", "..#", "###").thin(), 1);
        CHECKS.due("by both halves, one pass", Checks.of("###", "###", "###").thin(), 1);
        CHECKS.due("by both halves, one sample each",
                Checks.of("###...#", "#.....#", "#...###").thin(), 1);
        CHECKS.due("a layer each", Checks.full(9, 9).thin(), 4);
    }

    // "The lines are thinned": those that are left, not the picture once more.
    private static void thinOfWhatWasPruned() {
        Subject x = Checks.thinned(FORK);
        x.prune(3);
        CHECKS.due("thin() after prune", x.thin(), 0);
        CHECKS.due("what was cut off stays so", Checks.linesOf(x), "...../...../..#../.#.#./#...#");
        // Without its lower arm the crossing is simple, so that it goes.
        Subject plus = Checks.thinned("...#...", "...#...", "...#...", "#######", "...#...", "...#...");
        CHECKS.due("prune(3)", plus.prune(3), 2);
        CHECKS.due("thin() goes on", plus.thin(), 1);
        CHECKS.due("from there", Checks.linesOf(plus),
                "...#.../...#.../...#.../###.###/......./.......");
    }

    // ---- Promise 4.

    // "Whether a sample of the lines is black"; "there is no such sample."
    private static void at() {
        Subject x = new Subject(24, 3);
        x.put(23, 2, true);
        CHECKS.due("at the last one", x.at(23, 2), true);
        CHECKS.due("at the first one", x.at(0, 0), false);
        CHECKS.dueBounds("at, one to the right", () -> x.at(24, 2));
        CHECKS.dueBounds("at, one below", () -> x.at(23, 3));
        dueRefused("at, column", n -> x.at(n, 2));
        dueRefused("at, row", n -> x.at(23, n));
    }

    // ---- Promise 5.

    private static void prune() {
        pruneByLengthsThatAreNone();
        pruneByTheLeastAndTheLargestLength();
        lessSamplesThanTold();
        anEndAtOneEndAndACrossingAtTheOther();
        onlyIfItsCrossingStillIsOne();
        strokesAsTheyAreNow();
    }

    // "IllegalArgument: the length is not 0 .. 600."
    private static void pruneByLengthsThatAreNone() {
        Subject x = Checks.thinned(FORK);
        for (int length : new int[] {-1, -600, LEAST, 601, 1000, MOST}) {
            CHECKS.dueArgument("prune(" + length + ")", () -> x.prune(length));
        }
        CHECKS.due("all is there", Checks.linesOf(x), String.join("/", FORK));
    }

    private static void pruneByTheLeastAndTheLargestLength() {
        Subject x = Checks.thinned(FORK);
        CHECKS.due("prune(0)", x.prune(0), 0);
        CHECKS.due("all is there", Checks.linesOf(x), String.join("/", FORK));
        CHECKS.due("prune(600)", x.prune(600), 2);
        Subject snake = snake();
        CHECKS.due("thin() of a snake", snake.thin(), 0);
        CHECKS.due("prune(600) of a snake", snake.prune(600), SNAKE);
        CHECKS.due("its crossing and two arms are left", Checks.strokesOf(snake), "10,21 11,20 12,21");
    }

    // "Less samples than told, the crossing not counted."
    private static void lessSamplesThanTold() {
        Subject one = Checks.thinned("#.#", ".#.", "#.#");
        CHECKS.due("one is not less than 1", one.prune(1), 0);
        CHECKS.due("one is less than 2", one.prune(2), 2);
        Subject two = Checks.thinned(FORK);
        CHECKS.due("two are not less than 2", two.prune(2), 0);
        CHECKS.due("two are less than 3", two.prune(3), 2);
        Subject snake = snake();
        snake.thin();
        CHECKS.due("as many as told: an arm goes instead", snake.prune(SNAKE), 1);
        Subject again = snake();
        again.thin();
        CHECKS.due("one less than told", again.prune(SNAKE + 1), SNAKE);
    }

    private static void dueNotPruned(String what, String... rows) {
        Subject x = Checks.thinned(rows);
        CHECKS.due(what + ": prune(600)", x.prune(600), 0);
        CHECKS.due(what + ": all is there", Checks.linesOf(x), String.join("/", rows));
    }

    // "That have an end (of degree 1, that is) at one end and a crossing at the other."
    private static void anEndAtOneEndAndACrossingAtTheOther() {
        dueNotPruned("no strokes", "...", "...");
        dueNotPruned("a node of degree 0", "#");
        dueNotPruned("two ends", "##");
        dueNotPruned("one that goes round", RING);
        dueNotPruned("a crossing of two loops", ".#.", "#.#", ".#.", "#.#", ".#.");
        // Each crossing has one arm too many, but what is between them has no end.
        Subject x = Checks.thinned(BRIDGE);
        CHECKS.due("a bridge", x.prune(3), 4);
        CHECKS.due("is there still", Checks.linesOf(x), "......./......./..###../.#...#./#.....#");
        // Begun from the crossing, or from the end: both are loose.
        CHECKS.due("the end is the last sample", Checks.thinned(RING[0], RING[1], RING[2], ".#.").prune(2), 1);
        CHECKS.due("the end is the first sample", Checks.thinned(".#.", RING[0], RING[1], RING[2]).prune(2), 1);
    }

    // "One after the other ..; each only if its crossing still is one then."
    private static void onlyIfItsCrossingStillIsOne() {
        Subject three = Checks.thinned(FORK);
        CHECKS.due("of three arms the first", three.prune(3), 2);
        CHECKS.due("went", Checks.linesOf(three), "...../...../..#../.#.#./#...#");
        Subject four = Checks.thinned("#.#", ".#.", "#.#");
        CHECKS.due("of four arms the first two", four.prune(2), 2);
        CHECKS.due("went", Checks.linesOf(four), ".../.#./#.#");
        // The upper arm is too long; of the other two the first one goes.
        Subject longer = Checks.thinned(".#.", ".#.", ".#.", "#.#");
        CHECKS.due("the first that is short", longer.prune(2), 1);
        CHECKS.due("went", Checks.linesOf(longer), ".#./.#./.#./#..");
    }

    // "All strokes as they are now": what comes to be short by it does not go.
    private static void strokesAsTheyAreNow() {
        // Of 6,1 the left arm goes. Then the right one reaches to 6,3, but stays till the next call.
        Subject x = Checks.thinned(
            ".....#.#.....",
            "......#......",
            "......#......",
            "......#......",
            ".....#.#.....",
            "....#...#....",
            "...#.....#...",
            "..#.......#..",
            ".#.........#.",
            "#...........#");
        CHECKS.due("one arm", x.prune(6), 1);
        CHECKS.due("(Strokes are others then.)", Checks.strokeOf(x, 0), "7,0 6,1 6,2 6,3");
        CHECKS.due("it is thinned still", x.told(4), 1);
        CHECKS.due("one arm more", x.prune(6), 3);
        CHECKS.due("one stroke is left", x.strokes(), 1);
        CHECKS.due("and has no crossing", x.prune(600), 0);
    }

    // ---- Promise 6.

    // "How many strokes": none, one, as many as can be.
    private static void strokes() {
        CHECKS.due("strokes of nothing", Checks.thinned("..").strokes(), 0);
        CHECKS.due("strokes of the least picture", Checks.thinned("#").strokes(), 1);
        Subject dots = dotted();
        dots.thin();
        CHECKS.due("strokes of 144 dots", dots.strokes(), 144);
        // 529 links, of which 44 samples of degree 2 at the edges join two and two.
        Subject most = checkered();
        CHECKS.due("thin() of what is checkered", most.thin(), 0);
        CHECKS.due("strokes of what is checkered", most.strokes(), 485);
        CHECKS.due("the last one, begin", most.place(484, 0, 0) + "," + most.place(484, 0, 1), "22,22");
        CHECKS.due("the last one, end", most.place(484, 1, 0) + "," + most.place(484, 1, 1), "23,23");
        CHECKS.dueState("strokes, not thinned", () -> new Subject(3, 3).strokes());
    }

    // ---- Promise 7.

    // "How many samples a stroke has, with those at its ends (..)"; "there is no such stroke."
    private static void points() {
        CHECKS.due("of a node by itself", Checks.thinned("#").points(0), 1);
        CHECKS.due("of two ends", Checks.thinned("##").points(0), 2);
        CHECKS.due("one that comes back to its node has that twice",
                Checks.thinned(RING[0], RING[1], RING[2], ".#.").points(0), 5);
        CHECKS.due("one that goes round without a node has each once", Checks.thinned(RING).points(0), 4);
        Subject snake = snake();
        snake.thin();
        CHECKS.due("of a snake", snake.points(0), SNAKE + 1);
        Subject x = Checks.thinned(FORK);
        CHECKS.due("the last stroke", x.points(2), 3);
        CHECKS.dueBounds("one stroke more", () -> x.points(3));
        dueRefused("points, stroke", x::points);
        CHECKS.dueBounds("no stroke at all", () -> Checks.thinned("..").points(0));
        x.prune(3);
        CHECKS.due("the one that is left", x.points(0), 5);
        CHECKS.dueBounds("one that was", () -> x.points(1));
    }

    // ---- Promise 8.

    // "The column (axis 0) or row (1)"; "there is no such stroke, place of it, or axis."
    private static void place() {
        Subject x = Checks.thinned(FORK);
        CHECKS.due("the first column", x.place(0, 0, 0), 2);
        CHECKS.due("the first row", x.place(0, 0, 1), 0);
        CHECKS.due("the last column", x.place(2, 2, 0), 0);
        CHECKS.due("the last row", x.place(2, 2, 1), 4);
        CHECKS.dueBounds("one stroke more", () -> x.place(3, 0, 0));
        CHECKS.dueBounds("one place more", () -> x.place(0, 3, 0));
        CHECKS.dueBounds("one place more of the last", () -> x.place(2, 3, 1));
        CHECKS.dueBounds("one axis more", () -> x.place(0, 0, 2));
        dueRefused("place, stroke", n -> x.place(n, 0, 0));
        dueRefused("place, place", n -> x.place(1, n, 0));
        dueRefused("place, axis", n -> x.place(1, 0, n));
        CHECKS.dueBounds("no stroke at all", () -> Checks.thinned("..").place(0, 0, 0));
        Subject corner = new Subject(24, 24);
        corner.put(23, 23, true);
        corner.thin();
        CHECKS.due("the largest column", corner.place(0, 0, 0), 23);
        CHECKS.due("the largest row", corner.place(0, 0, 1), 23);
    }

    // ---- Promise 9.

    // "How far from the nearest white one (beyond it, too); 0 for a white one"; "no such sample."
    private static void distance2() {
        CHECKS.due("a white one", Checks.of("#.#").distance2(1, 0), 0L);
        CHECKS.due("the least picture", Checks.full(1, 1).distance2(0, 0), 1L);
        // Each side of what is beyond by itself.
        Subject full = Checks.full(9, 9);
        CHECKS.due("beyond, above", full.distance2(4, 1), 4L);
        CHECKS.due("beyond, right", full.distance2(7, 4), 4L);
        CHECKS.due("beyond, below", full.distance2(4, 7), 4L);
        CHECKS.due("beyond, left", full.distance2(1, 4), 4L);
        CHECKS.due("beyond, on all sides", full.distance2(4, 4), 25L);
        full.put(1, 1, false);
        CHECKS.due("aslant within", full.distance2(4, 4), 18L);
        CHECKS.due("beyond, though white is within", full.distance2(7, 7), 4L);
        CHECKS.dueBounds("one to the right", () -> full.distance2(9, 0));
        CHECKS.dueBounds("one below", () -> full.distance2(0, 9));
        dueRefused("distance2, column", n -> full.distance2(n, 0));
        dueRefused("distance2, row", n -> full.distance2(0, n));
        Subject disc = new Subject(24, 24);
        for (int n = 0; n < 576; n++) {
            int dx = n % 24 - 11;
            int dy = n / 24 - 11;
            if (dx * dx + dy * dy < 144) {
                disc.put(n % 24, n / 24, true);
            }
        }
        CHECKS.due("the farthest that there is", disc.distance2(11, 11), 144L);
        disc.thin();
        CHECKS.due("of the picture, not of the lines", disc.distance2(11, 11), 144L);
        disc.put(18, 19, false);
        CHECKS.due("a white one nearer than that", disc.distance2(11, 11), 113L);
    }

    // ---- Promise 10.

    // "Its column (what = 0), row (1), degree (2)"; no such crossing; a number that is none told.
    private static void crossing() {
        Subject x = checkered();
        x.thin();
        CHECKS.due("the first column", x.crossing(0, 0), 1);
        CHECKS.due("the first row", x.crossing(0, 1), 1);
        CHECKS.due("the first degree", x.crossing(0, 2), 4);
        CHECKS.due("the last column", x.crossing(241, 0), 22);
        CHECKS.due("the last row", x.crossing(241, 1), 22);
        CHECKS.due("the last degree", x.crossing(241, 2), 4);
        CHECKS.dueBounds("one crossing more", () -> x.crossing(242, 0));
        dueRefused("crossing, crossing", n -> x.crossing(n, 0));
        for (int what : new int[] {-1, 3, 4, LEAST, MOST}) {
            CHECKS.dueArgument("crossing, what " + what, () -> x.crossing(0, what));
        }
        CHECKS.dueBounds("no crossing at all", () -> Checks.thinned("###").crossing(0, 0));
        CHECKS.dueBounds("no lines at all", () -> Checks.thinned("...").crossing(0, 0));
        Subject fork = Checks.thinned(FORK);
        CHECKS.due("one of degree 3", Checks.crossingsOf(fork), " 2,2 by 3");
        fork.prune(3);
        CHECKS.dueBounds("none when it has 2", () -> fork.crossing(0, 0));
    }

    // ---- Promise 11.

    private static void joined() {
        joinedOfNoSuchStroke();
        ifItsLastSampleIsACrossing();
        ofAllOtherStrokes();
        ifItIsAboveARightAngle();
        ofEqualOnesTheFirst();
        threeStepsOnOrItsOtherEnd();
        ofOneThatBothBeginsAndEndsThere();
    }

    // "There is no such stroke."
    private static void joinedOfNoSuchStroke() {
        Subject x = Checks.thinned(FORK);
        CHECKS.due("the last stroke", x.joined(2), ThinStrokes.NONE);
        CHECKS.dueBounds("one stroke more", () -> x.joined(3));
        dueRefused("joined, stroke", x::joined);
        CHECKS.dueBounds("no stroke at all", () -> Checks.thinned("..").joined(0));
    }

    // "If its last sample is a crossing, ..; NONE without one."
    private static void ifItsLastSampleIsACrossing() {
        CHECKS.due("the first one is", Checks.thinned(FORK).joined(1), ThinStrokes.NONE);
        CHECKS.due("an end", Checks.thinned("###").joined(0), ThinStrokes.NONE);
        CHECKS.due("a node by itself", Checks.thinned("#").joined(0), ThinStrokes.NONE);
        CHECKS.due("one that goes round", Checks.thinned(RING).joined(0), ThinStrokes.NONE);
        // Both are: what counts is where it ends, at 4,2.
        CHECKS.due("both are", Checks.thinned(BRIDGE).joined(2), 1);
    }

    // "Of all other strokes that begin or end there": not itself, though its two ends were straight.
    private static void ofAllOtherStrokes() {
        Subject x = Checks.thinned(
            "..#####..",
            ".#.....#.",
            "#...#...#",
            "#...#...#",
            "#...#...#",
            ".#######.",
            "....#....",
            "....#....",
            "....#....");
        CHECKS.due("the loop is stroke 1", x.points(1), 21);
        CHECKS.due("not itself", x.joined(1), ThinStrokes.NONE);
        CHECKS.due("one that begins there", x.joined(0), 2);
        // That from 4,0 and that from 0,2 both end at the crossing, 2,2.
        CHECKS.due("one that ends there",
                Checks.thinned("....#", "...#.", "###..", "..#..", "..#..").joined(1), 0);
        // The dot lies straight on, but the crossing is no end of it.
        CHECKS.due("none that is elsewhere",
                Checks.thinned("..#..", "..#..", "..#..", ".#.#.", "#...#", ".....", "..#..").joined(0), 1);
    }

    // The arm below is cut, so that straight arms left and right of the crossing 3,3 can stay.
    private static int joinedOfStem(String above, String beside, String below) {
        Subject x = Checks.thinned("...#...", "...#...", above, beside, below, "...#...");
        CHECKS.due("the lower arm went", x.prune(3), 2);
        CHECKS.due("the stem is stroke 0", Checks.strokeOf(x, 0), "3,0 3,1 3,2 3,3");
        return x.joined(0);
    }

    // "If it is above a right angle."
    private static void ifItIsAboveARightAngle() {
        CHECKS.due("a right angle", joinedOfStem("...#...", "#######", "...#..."), ThinStrokes.NONE);
        CHECKS.due("just above", joinedOfStem("...#...", "######.", "...#..#"), 2);
        CHECKS.due("just below", joinedOfStem("...#..#", "######.", "...#..."), ThinStrokes.NONE);
    }

    // "Of equal ones the first": also if one has fewer steps than the other.
    private static void ofEqualOnesTheFirst() {
        CHECKS.due("of the same length", Checks.thinned(FORK).joined(0), 1);
        CHECKS.due("the first is shorter",
                Checks.thinned("...#.", "...#.", "...#.", "..#.#", ".#...", "#....").joined(0), 1);
        CHECKS.due("the first is longer",
                Checks.thinned(".#...", ".#...", ".#...", "#.#..", "...#.", "....#").joined(0), 1);
    }

    // "From the crossing to its sample three steps on (or its other end, if that is nearer)."
    private static void threeStepsOnOrItsOtherEnd() {
        // From 3,3 the right one goes 1,1 2,2 1,3 2,4 on, the left one -1,1 -1,2 -2,3 -1,4.
        String[] rows = {
            "...#...",
            "...#...",
            "...#...",
            "...#...",
            "..#.#..",
            "..#..#.",
            ".#..#..",
            "..#..#."};
        CHECKS.due("four steps: the third", Checks.thinned(rows).joined(0), 1);
        rows[7] = ".......";
        CHECKS.due("three steps: the end", Checks.thinned(rows).joined(0), 1);
        rows[6] = ".......";
        CHECKS.due("two steps: the end", Checks.thinned(rows).joined(0), 2);
        rows[5] = ".......";
        CHECKS.due("one step: the end, equal ones", Checks.thinned(rows).joined(0), 1);
    }

    // "Of one that both begins and ends there, that where it begins."
    private static void ofOneThatBothBeginsAndEndsThere() {
        // It begins above to the right and ends from the left; the stem goes down.
        Subject own = Checks.thinned(
            "..###..",
            ".#...#.",
            "#.....#",
            "#....#.",
            ".####..",
            "....#..",
            "....#..",
            "....#..");
        CHECKS.due("its own direction", own.joined(0), 1);
        // It begins below to the right and ends from the left; the stem comes from above.
        Subject other = Checks.thinned(
            "....#..",
            "....#..",
            "....#..",
            ".####..",
            "#....#.",
            "#.....#",
            ".#...#.",
            "..###..");
        CHECKS.due("that of another", other.joined(0), 1);
    }

    // ---- Promises 12 and 13.

    // "How many parts the lines have": none, one, as many as can be.
    private static void parts() {
        CHECKS.due("of nothing", new Subject(24, 24).parts(), 0);
        CHECKS.due("of the least picture", Checks.full(1, 1).parts(), 1);
        CHECKS.due("of all black", Checks.full(24, 21).parts(), 1);
        CHECKS.due("of 144 dots", dotted().parts(), 144);
        CHECKS.due("of what is checkered", checkered().parts(), 1);
        Subject x = Checks.of("##", "##");
        CHECKS.due("not thinned", x.parts(), 1);
        x.thin();
        CHECKS.due("thinned", x.parts(), 1);
    }

    // "How many holes the lines have": none, as many as can be.
    private static void holes() {
        CHECKS.due("of nothing", new Subject(24, 24).holes(), 0);
        CHECKS.due("of the least picture", Checks.full(1, 1).holes(), 0);
        CHECKS.due("of all black", Checks.full(24, 21).holes(), 0);
        CHECKS.due("of 144 dots", dotted().holes(), 0);
        // All white ones but those at the edges.
        CHECKS.due("of what is checkered", checkered().holes(), 242);
        Subject x = Checks.of("####", "#..#", "####");
        CHECKS.due("not thinned", x.holes(), 1);
        x.thin();
        CHECKS.due("thinned", x.holes(), 1);
    }

    // ---- Promise 14.

    // "In no disc: for each sample of the lines, all that are nearer to it than its nearest white one."
    private static void draw() {
        CHECKS.due("of nothing", Checks.thinned("...").draw(), 0);
        CHECKS.due("of the least picture", Checks.thinned("#").draw(), 0);
        CHECKS.dueState("not thinned", () -> Checks.of("#").draw());
        // The lower two are left; the upper two are as far from them as what is beyond below.
        CHECKS.due("as far as the nearest white one", Checks.thinned("##", "##").draw(), 2);
        // 1,1 is left, with 2,2; all is nearer to it than what is beyond.
        CHECKS.due("nearer than what is beyond", Checks.thinned("###", "###", "###").draw(), 0);
        // 3,3 is left, four from what is beyond, and a line to 6,6; the other three corners are farther.
        Subject full = Checks.full(7, 7);
        full.thin();
        CHECKS.due("of all black", full.draw(), 3);
        // 1,1 is left, with 2,2; now 2,0 and 0,2 are as far from it as 0,0.
        CHECKS.due("as far as one aslant", Checks.thinned(".##", "###", "###").draw(), 2);
        Subject cut = Checks.thinned(FORK);
        CHECKS.due("of what is thin already", cut.draw(), 0);
        cut.prune(3);
        CHECKS.due("black in the picture, gone from the lines", cut.draw(), 2);
        Subject dots = dotted();
        dots.thin();
        CHECKS.due("of 144 dots", dots.draw(), 0);
    }

    // ---- Promise 15.

    // "NONE for another what."
    private static void told() {
        Subject x = Checks.full(24, 21);
        CHECKS.due("width", x.told(0), 24);
        CHECKS.due("height", x.told(1), 21);
        CHECKS.due("black, all", x.told(2), 504);
        CHECKS.due("black of the lines, all", x.told(3), 504);
        CHECKS.due("not thinned", x.told(4), 0);
        Subject none = new Subject(3, 3);
        for (int what : new int[] {-1, 5, 6, 8, 256, LEAST, MOST}) {
            CHECKS.due("told(" + what + ")", none.told(what), -1);
        }
        CHECKS.due("NONE", ThinStrokes.NONE, -1);
    }

    // ---- Promise 16.

    // "All is as at first."
    private static void clear() {
        String fresh = Checks.allOf(new Subject(5, 5));
        Subject empty = new Subject(5, 5);
        empty.clear();
        CHECKS.due("of a new one", Checks.allOf(empty), fresh);
        empty.thin();
        empty.clear();
        CHECKS.due("of nothing that was thinned", Checks.allOf(empty), fresh);
        Subject x = Checks.of(FORK);
        x.clear();
        CHECKS.due("of one that was painted", Checks.allOf(x), fresh);
        Subject thinned = Checks.thinned(FORK);
        thinned.clear();
        CHECKS.due("of one that was thinned", Checks.allOf(thinned), fresh);
        CHECKS.due("then put", thinned.put(2, 2, true), true);
        CHECKS.due("then thin()", thinned.thin(), 0);
        CHECKS.due("and nothing of before is there", Checks.strokesOf(thinned), "2,2");
        Subject pruned = Checks.thinned(FORK);
        pruned.prune(3);
        pruned.clear();
        pruned.clear();
        CHECKS.due("of one that was pruned, twice", Checks.allOf(pruned), fresh);
    }
}
