/** Each promise by itself: ordinary inputs, the document's edges, wrong inputs; worked by hand. */
public final class PromisesTest {
    private static final Checks CHECKS = new Checks();
    private static final int[] WILD = {-1, Integer.MIN_VALUE, Integer.MAX_VALUE, 24, 600, -600, 1 << 16};

    // A stem from above that parts into two; the crossing is at 2,2.
    private static final String[] FORK = {
        "..#..",
        "..#..",
        "..#..",
        ".#.#.",
        "#...#"};
    private static final String[] PLUS = {
        "...#...",
        "...#...",
        "...#...",
        "#######",
        "...#...",
        "...#...",
        "......."};
    private static final String[] RING = {
        ".#.",
        "#.#",
        ".#."};

    public static void main(String[] args) {
        promise1NewObject();
        promise2Put();
        promise3Thin();
        promise3ThinByHalves();
        promise4At();
        promise5Prune();
        promise5PruneOneAfterTheOther();
        promise6Strokes();
        promise7Points();
        promise8Place();
        promise9Distance2();
        promise10Crossing();
        promise11Joined();
        promise11JoinedByAngle();
        promise11JoinedOfLoops();
        promise12Parts();
        promise13Holes();
        promise14Draw();
        promise15Told();
        promise16Clear();
        whichExceptionComesFirst();
        CHECKS.end("PromisesTest");
    }

    private static void dueSize(int width, int height, int columns, int rows) {
        Subject x = new Subject(width, height);
        String of = "new (" + width + ", " + height + ")";
        CHECKS.due(of + " width", x.told(0), columns);
        CHECKS.due(of + " height", x.told(1), rows);
        CHECKS.due(of + " black", x.told(2), 0);
        CHECKS.due(of + " black lines", x.told(3), 0);
        CHECKS.due(of + " thinned", x.told(4), 0);
        CHECKS.due(of + " last sample", x.at(columns - 1, rows - 1), false);
        CHECKS.dueBounds(of + " beyond right", () -> x.at(columns, 0));
        CHECKS.dueBounds(of + " beyond below", () -> x.at(0, rows));
    }

    private static void promise1NewObject() {
        dueSize(1, 1, 1, 1);
        dueSize(24, 24, 24, 24);
        dueSize(5, 9, 5, 9);
        dueSize(0, 25, 1, 24);
        dueSize(25, 0, 24, 1);
        dueSize(-7, 1000, 1, 24);
        dueSize(Integer.MIN_VALUE, Integer.MAX_VALUE, 1, 24);
        dueSize(Integer.MAX_VALUE, Integer.MIN_VALUE, 24, 1);
    }

    private static void promise2Put() {
        Subject x = new Subject(24, 3);
        CHECKS.due("put white on white", x.put(0, 0, false), false);
        CHECKS.due("put black on white", x.put(23, 2, true), true);
        CHECKS.due("it is black", x.at(23, 2), true);
        CHECKS.due("put black on black", x.put(23, 2, true), false);
        CHECKS.due("put white on black", x.put(23, 2, false), true);
        CHECKS.due("it is white", x.at(23, 2), false);
        CHECKS.dueBounds("put(24, 0)", () -> x.put(24, 0, true));
        CHECKS.dueBounds("put(0, 3)", () -> x.put(0, 3, true));
        for (int wild : WILD) {
            CHECKS.dueBounds("put(wild, 0)", () -> x.put(wild, 0, true));
            CHECKS.dueBounds("put(0, wild)", () -> x.put(0, wild, false));
        }
        CHECKS.due("nothing came of them", x.told(2), 0);
        putUndoesThinning();
    }

    private static void putUndoesThinning() {
        Subject x = Checks.of("###", "###", "###");
        x.thin();
        CHECKS.dueBounds("put that throws", () -> x.put(3, 3, true));
        CHECKS.due("leaves it thinned", x.told(4), 1);
        CHECKS.due("and the lines", x.told(3), 2);
        CHECKS.due("put of what is so", x.put(0, 0, true), false);
        CHECKS.due("undoes the thinning", x.told(4), 0);
        CHECKS.due("the lines are the picture", Checks.linesOf(x), "###/###/###");
        x.thin();
        CHECKS.due("put by the picture, not the lines", x.put(0, 0, false), true);
        CHECKS.due("the lines are the new picture", Checks.linesOf(x), ".##/###/###");
    }

    private static void dueThin(String want, int passes, String... rows) {
        Subject x = Checks.of(rows);
        String name = String.join("/", rows);
        CHECKS.due("thin() of " + name, x.thin(), passes);
        CHECKS.due("lines of " + name, Checks.linesOf(x), want);
        CHECKS.due("thinned " + name, x.told(4), 1);
        CHECKS.due("thin() again of " + name, x.thin(), 0);
        CHECKS.due("lines again of " + name, Checks.linesOf(x), want);
    }

    private static void promise3Thin() {
        dueThin(".", 0, ".");
        dueThin("#", 0, "#");
        dueThin("###", 0, "###");
        dueThin("#/#", 0, "#", "#");
        dueThin("../##", 1, "##", "##");
        // The T's middle is simple; without it all still hangs together by corners.
        dueThin("##.##/..#../..#..", 1, "#####", "..#..", "..#..");
        dueThin(String.join("/", FORK), 0, FORK);
        dueThin(String.join("/", PLUS), 0, PLUS);
        dueThin(String.join("/", RING), 0, RING);
    }

    private static void promise3ThinByHalves() {
        // First half: the upper row and the left column; second: 2,1 and 1,2; then 2,2 is an end.
        dueThin(".../.#./..#", 1, "###", "###", "###");
        // First half: the upper row goes; 0,1 came with it, but is an end by then.
        dueThin(".../###", 1, "###", "###");
        // Arms of one sample have three black neighbours, so they are no ends.
        dueThin("...../#####/.....", 1, "..#..", "#####", "..#..");
        // The lower one comes too, but when its turn is there it is an end.
        dueThin(".../.#./.#.", 1, ".#.", "###", ".#.");
        // A hole stays one: what is round it thins to the ring of its sides.
        Subject frame = Checks.of("###", "#.#", "###");
        CHECKS.due("thin() of a frame", frame.thin(), 1);
        CHECKS.due("lines of a frame", Checks.linesOf(frame), ".#./#.#/.#.");
        CHECKS.due("holes of a frame", frame.holes(), 1);
        // Each pass takes a layer.
        Subject block = Checks.full(9, 9);
        CHECKS.due("thin() of a block of nine", block.thin(), 4);
        CHECKS.due("parts of a block of nine", block.parts(), 1);
    }

    private static void promise4At() {
        Subject x = Checks.thinned("##", "##");
        CHECKS.due("at, gone from the lines", x.at(0, 0), false);
        CHECKS.due("at, left in the lines", x.at(0, 1), true);
        CHECKS.due("the picture has it still", x.told(2), 4);
        CHECKS.dueBounds("at(2, 0)", () -> x.at(2, 0));
        CHECKS.dueBounds("at(0, 2)", () -> x.at(0, 2));
        for (int wild : WILD) {
            CHECKS.dueBounds("at(wild, 0)", () -> x.at(wild, 0));
            CHECKS.dueBounds("at(0, wild)", () -> x.at(0, wild));
        }
    }

    private static void promise5Prune() {
        Subject x = Checks.of(FORK);
        CHECKS.dueState("prune(3), not thinned", () -> x.prune(3));
        CHECKS.dueState("prune(-1), not thinned", () -> x.prune(-1));
        x.thin();
        CHECKS.dueArgument("prune(-1)", () -> x.prune(-1));
        CHECKS.dueArgument("prune(601)", () -> x.prune(601));
        CHECKS.dueArgument("prune(least)", () -> x.prune(Integer.MIN_VALUE));
        CHECKS.dueArgument("prune(most)", () -> x.prune(Integer.MAX_VALUE));
        CHECKS.due("nothing came of them", x.strokes(), 3);
        CHECKS.due("prune(0)", x.prune(0), 0);
        CHECKS.due("two samples are not less than 2", x.prune(2), 0);
        CHECKS.due("they are less than 3", x.prune(3), 2);
        CHECKS.due("the crossing is one no more", Checks.linesOf(x), "...../...../..#../.#.#./#...#");
        CHECKS.due("it still is thinned", x.told(4), 1);
        CHECKS.due("strokes are others then", x.strokes(), 1);
        CHECKS.due("the one that is left", Checks.strokeOf(x, 0), "0,4 1,3 2,2 3,3 4,4");
        CHECKS.due("two ends and no crossing", x.prune(600), 0);
    }

    private static void promise5PruneOneAfterTheOther() {
        // Arms above, left and right of 3 and below of 2: above and left come before the crossing,
        // and when they went, it is one no more.
        Subject plus = Checks.thinned(PLUS);
        CHECKS.due("prune(3) of a plus", plus.prune(3), 2);
        CHECKS.due("its crossing has 3 left", plus.crossing(0, 2), 3);
        CHECKS.due("prune(600) of the rest", plus.prune(600), 3);
        CHECKS.due("the rest", Checks.linesOf(plus),
                "......./......./......./#######/......./......./.......");
        Subject whole = Checks.thinned(PLUS);
        CHECKS.due("prune(4) of a plus", whole.prune(4), 6);
        CHECKS.due("above and left went", Checks.linesOf(whole),
                "......./......./......./...####/...#.../...#.../.......");
        // A short stroke between two crossings has no end; a ring at a crossing neither.
        Subject bridge = Checks.thinned(
            "#.....#",
            ".#...#.",
            "..###..",
            ".#...#.",
            "#.....#");
        CHECKS.due("strokes of a bridge", bridge.strokes(), 5);
        CHECKS.due("prune(3) of a bridge", bridge.prune(3), 4);
        CHECKS.due("one arm of each side went", Checks.linesOf(bridge),
                "......./......./..###../.#...#./#.....#");
    }

    private static void promise6Strokes() {
        Subject x = new Subject(5, 5);
        CHECKS.dueState("strokes(), never thinned", x::strokes);
        x.thin();
        CHECKS.due("strokes of nothing", x.strokes(), 0);
        x.put(2, 2, true);
        CHECKS.dueState("strokes(), changed since", x::strokes);
        x.thin();
        CHECKS.due("strokes of one sample", x.strokes(), 1);
        CHECKS.due("strokes of a fork", Checks.thinned(FORK).strokes(), 3);
        CHECKS.due("strokes of a plus", Checks.thinned(PLUS).strokes(), 4);
        CHECKS.due("strokes of a ring", Checks.thinned(RING).strokes(), 1);
        // Rings come after what has nodes, whichever row they begin in.
        Subject ringAndDot = Checks.thinned(
            ".#...",
            "#.#..",
            ".#..#");
        CHECKS.due("strokes of a ring and a dot", ringAndDot.strokes(), 2);
        CHECKS.due("the dot", Checks.strokeOf(ringAndDot, 0), "4,2");
        CHECKS.due("the ring", Checks.strokeOf(ringAndDot, 1), "1,0 2,1 1,2 0,1");
        // A dot is a stroke where its row comes.
        Subject dotAndLine = Checks.thinned("....#", ".....", "##..#", "....#");
        CHECKS.due("a dot first", Checks.strokeOf(dotAndLine, 0), "4,0");
        CHECKS.due("a line then", Checks.strokeOf(dotAndLine, 1), "0,2 1,2");
        CHECKS.due("another one then", Checks.strokeOf(dotAndLine, 2), "4,2 4,3");
    }

    private static void promise7Points() {
        Subject x = Checks.of(FORK);
        CHECKS.dueState("points(0), not thinned", () -> x.points(0));
        CHECKS.dueState("points(-1), not thinned", () -> x.points(-1));
        x.thin();
        CHECKS.due("points(0)", x.points(0), 3);
        CHECKS.due("points(2)", x.points(2), 3);
        CHECKS.dueBounds("points(3)", () -> x.points(3));
        for (int wild : WILD) {
            CHECKS.dueBounds("points(wild)", () -> x.points(wild));
        }
        CHECKS.due("points of a dot", Checks.thinned("#").points(0), 1);
        CHECKS.due("points of a ring, each once", Checks.thinned(RING).points(0), 4);
        CHECKS.due("points of a loop, its node twice", loopWithStemBelow().points(0), 14);
        CHECKS.dueBounds("points(0) of nothing", () -> Checks.thinned(".").points(0));
    }

    private static void promise8Place() {
        Subject x = Checks.of(FORK);
        CHECKS.dueState("place(0, 0, 0), not thinned", () -> x.place(0, 0, 0));
        CHECKS.dueState("place(9, 9, 9), not thinned", () -> x.place(9, 9, 9));
        x.thin();
        CHECKS.due("stroke 0", Checks.strokeOf(x, 0), "2,0 2,1 2,2");
        CHECKS.due("stroke 1, round from above", Checks.strokeOf(x, 1), "2,2 3,3 4,4");
        CHECKS.due("stroke 2", Checks.strokeOf(x, 2), "2,2 1,3 0,4");
        CHECKS.dueBounds("place(3, 0, 0)", () -> x.place(3, 0, 0));
        CHECKS.dueBounds("place(0, 3, 0)", () -> x.place(0, 3, 0));
        CHECKS.dueBounds("place(0, 0, 2)", () -> x.place(0, 0, 2));
        for (int wild : WILD) {
            CHECKS.dueBounds("place(wild, 0, 0)", () -> x.place(wild, 0, 0));
            CHECKS.dueBounds("place(0, wild, 0)", () -> x.place(0, wild, 0));
            CHECKS.dueBounds("place(0, 0, wild)", () -> x.place(0, 0, wild));
        }
        // A corner is no link where a side goes the same way.
        CHECKS.due("an angle", Checks.strokeOf(Checks.thinned("#..", "#..", ".##"), 0), "0,0 0,1 1,2 2,2");
        CHECKS.due("a loop", Checks.strokeOf(loopWithStemBelow(), 0),
                "4,4 5,3 6,2 5,1 4,0 3,0 2,0 1,1 0,2 0,3 1,4 2,4 3,4 4,4");
    }

    private static void promise9Distance2() {
        Subject x = new Subject(5, 5);
        CHECKS.due("distance2 of a white one", x.distance2(2, 2), 0L);
        for (int n = 0; n < 25; n++) {
            x.put(n % 5, n / 5, true);
        }
        CHECKS.due("distance2(0, 0), all black", x.distance2(0, 0), 1L);
        CHECKS.due("distance2(1, 3), all black", x.distance2(1, 3), 4L);
        CHECKS.due("distance2(2, 2), all black", x.distance2(2, 2), 9L);
        x.put(0, 0, false);
        CHECKS.due("distance2(2, 2), aslant", x.distance2(2, 2), 8L);
        CHECKS.due("distance2(1, 1), aslant", x.distance2(1, 1), 2L);
        CHECKS.due("distance2(1, 2), the side is nearer", x.distance2(1, 2), 4L);
        CHECKS.due("distance2(0, 0), white", x.distance2(0, 0), 0L);
        x.thin();
        CHECKS.due("distance2 is of the picture, not the lines", x.distance2(2, 2), 8L);
        CHECKS.dueBounds("distance2(5, 0)", () -> x.distance2(5, 0));
        CHECKS.dueBounds("distance2(0, 5)", () -> x.distance2(0, 5));
        for (int wild : WILD) {
            CHECKS.dueBounds("distance2(wild, 0)", () -> x.distance2(wild, 0));
            CHECKS.dueBounds("distance2(0, wild)", () -> x.distance2(0, wild));
        }
        CHECKS.due("distance2 in the middle of a full one", Checks.full(24, 21).distance2(12, 10), 121L);
    }

    private static void promise10Crossing() {
        Subject x = Checks.of(PLUS);
        CHECKS.dueState("crossing(0, 0), not thinned", () -> x.crossing(0, 0));
        x.thin();
        CHECKS.due("crossing column", x.crossing(0, 0), 3);
        CHECKS.due("crossing row", x.crossing(0, 1), 3);
        CHECKS.due("crossing degree", x.crossing(0, 2), 4);
        CHECKS.dueBounds("crossing(1, 0)", () -> x.crossing(1, 0));
        CHECKS.dueArgument("crossing(0, 3)", () -> x.crossing(0, 3));
        for (int wild : WILD) {
            CHECKS.dueBounds("crossing(wild, 0)", () -> x.crossing(wild, 0));
            CHECKS.dueArgument("crossing(0, wild)", () -> x.crossing(0, wild));
        }
        // Two in one row come by their columns, one in a row above comes first.
        Subject more = Checks.thinned(
            "..........#.#",
            "#.....#....#.",
            ".#...#.....#.",
            "..###......#.",
            ".#...#.......",
            "#.....#......");
        String[] want = {"11,1", "2,3", "4,3"};
        for (int k = 0; k < want.length; k++) {
            CHECKS.due("crossing " + k, more.crossing(k, 0) + "," + more.crossing(k, 1), want[k]);
            CHECKS.due("degree " + k, more.crossing(k, 2), 3);
        }
        CHECKS.dueBounds("no fourth one", () -> more.crossing(3, 0));
        CHECKS.dueBounds("none in a line", () -> Checks.thinned("###").crossing(0, 0));
    }

    private static void promise11Joined() {
        Subject x = Checks.of(FORK);
        CHECKS.dueState("joined(0), not thinned", () -> x.joined(0));
        x.thin();
        CHECKS.due("of equal ones the first", x.joined(0), 1);
        CHECKS.due("where it ends is no crossing", x.joined(1), ThinStrokes.NONE);
        CHECKS.dueBounds("joined(3)", () -> x.joined(3));
        for (int wild : WILD) {
            CHECKS.dueBounds("joined(wild)", () -> x.joined(wild));
        }
        CHECKS.due("joined of a ring", Checks.thinned(RING).joined(0), ThinStrokes.NONE);
        CHECKS.due("joined of a dot", Checks.thinned("#").joined(0), ThinStrokes.NONE);
        Subject plus = Checks.thinned(PLUS);
        CHECKS.due("above goes on below", plus.joined(0), 3);
        CHECKS.due("left goes on right", plus.joined(1), 2);
        plus.prune(3);
        CHECKS.due("a right angle is not above one", plus.joined(0), ThinStrokes.NONE);
        CHECKS.due("left still goes on right", plus.joined(1), 2);
    }

    private static void promise11JoinedByAngle() {
        Subject x = Checks.thinned(
            "..#....",
            "..#....",
            "..#....",
            "..#....",
            ".#.#...",
            ".#..#..",
            ".#...#.");
        CHECKS.due("the straighter one, though it comes later", x.joined(0), 2);
        // By three steps the right one is straighter (1,3 to -2,3); by two (2,2 to -1,2) and by four
        // (2,4 to -1,4) the left one were.
        Subject bent = Checks.thinned(
            "...#...",
            "...#...",
            "...#...",
            "...#...",
            "..#.#..",
            "..#..#.",
            ".#..#..",
            "..#..#.");
        CHECKS.due("the sample three steps on counts", bent.joined(0), 1);
        // The right arm is two steps long: its direction is that to its other end, 2,1.
        Subject shorter = Checks.thinned(
            "#......",
            ".#.....",
            "..#....",
            "...#...",
            "..#.##.",
            "..#....",
            "..#....");
        CHECKS.due("a short one counts to its end", shorter.joined(0), 1);
    }

    // A loop that leaves its crossing at 4,4 above right, comes back from the left, and a stem.
    private static Subject loopWithStemBelow() {
        return Checks.thinned(
            "..###..",
            ".#...#.",
            "#.....#",
            "#....#.",
            ".####..",
            "....#..",
            "....#..",
            "....#..");
    }

    private static void promise11JoinedOfLoops() {
        Subject below = loopWithStemBelow();
        CHECKS.due("a loop's direction is where it begins", below.joined(0), 1);
        Subject above = Checks.thinned(
            "....#..",
            "....#..",
            "....#..",
            ".####..",
            "#....#.",
            "#.....#",
            ".#...#.",
            "..###..");
        CHECKS.due("also that of a loop gone on to", above.joined(0), 1);
        CHECKS.due("and from it back", above.joined(1), 0);
        CHECKS.due("a loop has no other, but the stem", above.strokes(), 2);
    }

    private static void promise12Parts() {
        Subject x = new Subject(4, 4);
        CHECKS.due("parts of nothing", x.parts(), 0);
        CHECKS.due("parts by corners", Checks.of("#.", ".#").parts(), 1);
        CHECKS.due("parts by corners, the other way", Checks.of(".#", "#.").parts(), 1);
        Subject apart = Checks.of("#.#", "...", "#.#");
        CHECKS.due("parts apart", apart.parts(), 4);
        CHECKS.due("parts apart, asked again", apart.parts(), 4);
        CHECKS.due("rows do not go on in the next", Checks.of("..#", "#..").parts(), 2);
        CHECKS.due("parts within a part's hole",
                Checks.of("#####", "#...#", "#.#.#", "#...#", "#####").parts(), 2);
        CHECKS.due("parts of all", Checks.full(24, 21).parts(), 1);
        Subject cut = Checks.thinned(FORK);
        cut.prune(3);
        CHECKS.due("parts are those of the lines", cut.parts(), 1);
    }

    private static void promise13Holes() {
        CHECKS.due("holes of nothing", new Subject(4, 4).holes(), 0);
        CHECKS.due("holes of all", Checks.full(24, 21).holes(), 0);
        CHECKS.due("a hole", Checks.of("###", "#.#", "###").holes(), 1);
        CHECKS.due("closed by corners", Checks.of(RING).holes(), 1);
        CHECKS.due("white hangs not by corners", Checks.of("####", "#.##", "##.#", "####").holes(), 2);
        CHECKS.due("white hangs by sides", Checks.of("####", "#..#", "####").holes(), 1);
        CHECKS.due("open to beyond", Checks.of("###", "#..", "###").holes(), 0);
        CHECKS.due("open by a corner alone is closed", Checks.of("##.", "#.#", "###").holes(), 1);
        CHECKS.due("a hole round a part",
                Checks.of("#####", "#...#", "#.#.#", "#...#", "#####").holes(), 1);
        Subject two = Checks.of("#####", "#.#.#", "#####");
        CHECKS.due("two holes", two.holes(), 2);
        CHECKS.due("two holes, asked again", two.holes(), 2);
        two.thin();
        CHECKS.due("two holes, thinned", two.holes(), 2);
    }

    private static void promise14Draw() {
        Subject x = Checks.of("##", "##");
        CHECKS.dueState("draw(), not thinned", x::draw);
        x.thin();
        CHECKS.due("as far as the nearest white one is in no disc", x.draw(), 2);
        CHECKS.due("draw() changes nothing", x.draw(), 2);
        CHECKS.due("nor the picture", x.told(2), 4);
        // 1,1 has its nearest white one two away, beyond: all else is nearer.
        CHECKS.due("draw() of a block of three", Checks.thinned("###", "###", "###").draw(), 0);
        // 1,1 has its nearest white one aslant, so its disc goes to the sides and no farther.
        CHECKS.due("draw() of a small plus", Checks.thinned(".#.", "###", ".#.").draw(), 0);
        CHECKS.due("draw() of a line", Checks.thinned("####").draw(), 0);
        CHECKS.due("draw() of nothing", Checks.thinned("..").draw(), 0);
        Subject cut = Checks.thinned(FORK);
        cut.prune(3);
        CHECKS.due("what was cut off is in no disc", cut.draw(), 2);
    }

    private static void promise15Told() {
        Subject x = Checks.of("##.", "##.");
        CHECKS.due("told(0)", x.told(0), 3);
        CHECKS.due("told(1)", x.told(1), 2);
        CHECKS.due("told(2)", x.told(2), 4);
        CHECKS.due("told(3)", x.told(3), 4);
        CHECKS.due("told(4)", x.told(4), 0);
        x.thin();
        CHECKS.due("told(2), thinned", x.told(2), 4);
        CHECKS.due("told(3), thinned", x.told(3), 2);
        CHECKS.due("told(4), thinned", x.told(4), 1);
        CHECKS.due("told(5)", x.told(5), ThinStrokes.NONE);
        for (int wild : WILD) {
            CHECKS.due("told(wild)", x.told(wild), -1);
        }
    }

    private static void promise16Clear() {
        Subject x = Checks.thinned(FORK);
        String fresh = Checks.allOf(new Subject(5, 5));
        x.clear();
        CHECKS.due("all is as at first", Checks.allOf(x), fresh);
        CHECKS.dueState("not thinned", x::strokes);
        CHECKS.due("thin() after clear", x.thin(), 0);
        CHECKS.due("strokes after clear", x.strokes(), 0);
        CHECKS.due("put after clear", x.put(2, 0, true), true);
        CHECKS.due("nothing else comes back", x.told(3), 1);
        Subject thick = Checks.of("##", "##");
        thick.clear();
        CHECKS.due("clear of what is not thinned", Checks.allOf(thick), Checks.allOf(new Subject(2, 2)));
    }

    private static void whichExceptionComesFirst() {
        Subject x = Checks.of(PLUS);
        CHECKS.dueState("state before bounds, points", () -> x.points(99));
        CHECKS.dueState("state before bounds, place", () -> x.place(0, -1, 7));
        CHECKS.dueState("state before bounds, joined", () -> x.joined(-1));
        CHECKS.dueState("state before both, crossing", () -> x.crossing(-1, -1));
        CHECKS.dueState("state before argument, prune", () -> x.prune(601));
        x.thin();
        CHECKS.dueBounds("bounds before argument, crossing", () -> x.crossing(1, 3));
        CHECKS.dueBounds("bounds before argument, crossing", () -> x.crossing(-1, -1));
    }
}
