/** The boundary cases that the document's 'Terms' name: each sentence, quoted, has its own test. */
public final class TermsTest {
    private static final Checks CHECKS = new Checks();

    public static void main(String[] args) {
        atMost512Calls();
        atFirstWhite();
        beyondThePictureAllIsWhite();
        rowsDoNotWrapRound();
        columnsDoNotWrapRound();
        neighboursGoRoundFromAbove();
        partsHangTogetherBySidesOrCorners();
        holesHangTogetherBySides();
        holesDoNotComeToWhatIsBeyond();
        simpleIfJustOneSideIsSuch();
        simpleIfAllRoundIsBlackNever();
        oneOfTheNextTwoRound();
        theNextTwoRoundAfterLeft();
        endIfJustOneNeighbourIsBlack();
        linesAreAtFirstWhatIsBlack();
        whiteAboveOrLeftInTheFirstHalf();
        whiteBelowOrRightInTheSecondHalf();
        allThatAreBlackThen();
        stillBlackNoEndAndSimple();
        nothingFallsApartAndNoHoleGoes();
        linkedAtACornerIfNeitherIsBlack();
        degreesOfNodes();
        crossingsHaveThreeOrMoreInOrderOfRows();
        strokesByNodesInOrderOfRows();
        strokesByLinksRoundFromAbove();
        eachLinkIsPartOfOneStroke();
        toTheNextNodePerhapsItself();
        nodeOfDegreeNoneIsAStroke();
        thoseThatGoRoundComeLast();
        CHECKS.end("TermsTest");
    }

    private static void dueLines(String what, String want, String... rows) {
        CHECKS.due(what, Checks.linesOf(Checks.thinned(rows)), want);
    }

    private static void dueStays(String what, String... rows) {
        Subject x = Checks.of(rows);
        CHECKS.due(what + ": passes", x.thin(), 0);
        CHECKS.due(what + ": lines", Checks.linesOf(x), String.join("/", rows));
    }

    // "An object is used for at most 512 calls after it has been made."
    private static void atMost512Calls() {
        Subject x = Checks.full(24, 21);
        CHECKS.due("call 505, thin()", x.thin(), 10);
        CHECKS.due("call 506, told(2)", x.told(2), 504);
        CHECKS.due("call 507, parts()", x.parts(), 1);
        CHECKS.due("call 508, holes()", x.holes(), 0);
        CHECKS.due("call 509, distance2(23, 20)", x.distance2(23, 20), 1L);
        CHECKS.dueBounds("call 510, at(24, 20)", () -> x.at(24, 20));
        CHECKS.due("call 511, thin()", x.thin(), 0);
        CHECKS.due("call 512, told(4)", x.told(4), 1);
        CHECKS.due("it was one object all along", x.calls(), 512);
    }

    // "A sample is black or white, at first white."
    private static void atFirstWhite() {
        CHECKS.due("at first", Checks.linesOf(new Subject(3, 2)), ".../...");
        CHECKS.due("all 576", Checks.linesOf(new Subject(24, 24)).replace("/", ""), ".".repeat(576));
    }

    // "Beyond the picture all is white."
    private static void beyondThePictureAllIsWhite() {
        CHECKS.due("beyond on all sides", Checks.full(1, 1).distance2(0, 0), 1L);
        Subject x = Checks.full(5, 3);
        for (int n = 0; n < 15; n++) {
            boolean edge = n % 5 == 0 || n % 5 == 4 || n / 5 != 1;
            CHECKS.due("distance2 of full, " + n, x.distance2(n % 5, n / 5), edge ? 1L : 4L);
        }
        // A full row is a line: its samples have white above and below.
        dueStays("a full row", "#####");
        dueStays("a full column", "#", "#", "#");
        // Were what is beyond black, nothing of a full picture would go.
        dueLines("a full picture", ".../.#./..#", "###", "###", "###");
    }

    // Beyond the right edge is what is beyond, not the next row's first sample.
    private static void rowsDoNotWrapRound() {
        Subject x = new Subject(24, 4);
        x.put(23, 1, true);
        x.put(0, 2, true);
        x.put(0, 1, true);
        CHECKS.due("parts at both edges", x.parts(), 2);
        x.thin();
        CHECKS.due("strokes at both edges", Checks.strokesOf(x), "0,1 0,2; 23,1");
        // In 0,0 and 4,1 of this the white ones are no holes: they are open at the edge.
        CHECKS.due("white at both edges", Checks.of(".####", "####.").holes(), 0);
        Subject wide = Checks.of("#...#", "#...#", "#...#");
        CHECKS.due("distances at the left edge", wide.distance2(0, 1), 1L);
        CHECKS.due("distances at the right edge", wide.distance2(4, 1), 1L);
    }

    // Nor is the last row above the first.
    private static void columnsDoNotWrapRound() {
        Subject x = new Subject(2, 24);
        x.put(0, 0, true);
        x.put(0, 23, true);
        x.put(1, 23, true);
        CHECKS.due("parts above and below", x.parts(), 2);
        x.thin();
        CHECKS.due("strokes above and below", Checks.strokesOf(x), "0,0; 0,23 1,23");
    }

    // "A sample's eight NEIGHBOURS go round it from that above, by that above to the right, .."
    private static void neighboursGoRoundFromAbove() {
        // The loop of 3,3 has its links to the right and above to the left: right comes first.
        Subject last = Checks.thinned(
            "..##..",
            ".#..#.",
            "..#..#",
            "...##.",
            "..#...",
            "..#...");
        CHECKS.due("above to the left is the last",
                Checks.strokesOf(last), "3,3 4,3 5,2 4,1 3,0 2,0 1,1 2,2 3,3; 3,3 2,4 2,5");
        // The loop of 2,3 has its links above and to the left: above comes first.
        Subject first = Checks.thinned(
            ".##...",
            "#..#..",
            "#.#...",
            ".##...",
            "...#..",
            "...#..");
        CHECKS.due("above is the first",
                Checks.strokesOf(first), "2,3 2,2 3,1 2,0 1,0 0,1 0,2 1,3 2,3; 2,3 3,4 3,5");
    }

    // "PARTS are groups of black samples that hang together by sides or corners."
    private static void partsHangTogetherBySidesOrCorners() {
        CHECKS.due("by sides", Checks.of("##", ".#").parts(), 1);
        CHECKS.due("by a corner below to the right", Checks.of("#.", ".#").parts(), 1);
        CHECKS.due("by a corner below to the left", Checks.of(".#", "#.").parts(), 1);
        CHECKS.due("by neither", Checks.of("#.#", "...", "#.#").parts(), 4);
        CHECKS.due("by one that comes later", Checks.of("#.#", ".#.").parts(), 1);
    }

    // "HOLES groups of white ones that hang together by sides .."
    private static void holesHangTogetherBySides() {
        CHECKS.due("by sides", Checks.of("####", "#..#", "#.##", "####").holes(), 1);
        CHECKS.due("not by a corner", Checks.of("####", "#.##", "##.#", "####").holes(), 2);
        CHECKS.due("not by the other corner", Checks.of("####", "##.#", "#.##", "####").holes(), 2);
    }

    // ".. and do not come to what is beyond the picture."
    private static void holesDoNotComeToWhatIsBeyond() {
        CHECKS.due("closed all round", Checks.of("###", "#.#", "###").holes(), 1);
        CHECKS.due("open above", Checks.of("#.#", "#.#", "###").holes(), 0);
        CHECKS.due("open to the right", Checks.of("###", "#..", "###").holes(), 0);
        CHECKS.due("open below", Checks.of("###", "#.#", "#.#").holes(), 0);
        CHECKS.due("open to the left", Checks.of("###", "..#", "###").holes(), 0);
        CHECKS.due("at the edge itself", Checks.of(".").holes(), 0);
        CHECKS.due("at a corner of the picture", Checks.of(".#", "##").holes(), 0);
        CHECKS.due("beyond by a corner alone", Checks.of(".#.", "#.#", ".#.").holes(), 1);
    }

    // "A black sample is SIMPLE, if of its neighbours above, right, below, left just one is such .."
    private static void simpleIfJustOneSideIsSuch() {
        dueStays("none is: nothing round it", "...", ".#.", "...");
        // 2,2 has white right and below, but after right come two white ones.
        dueLines("one is", "..#/..#/##.", "..#", "..#", "###");
        dueStays("two are: a line's middle", "...", "###", "...");
        dueStays("three are: a fork's middle", ".#.", ".#.", "#.#");
        dueStays("four are: a cross of corners", "#.#", ".#.", "#.#");
    }

    // None is such either if all four are black; then a sample never comes.
    private static void simpleIfAllRoundIsBlackNever() {
        dueStays("a cross of long arms", "..#..", "..#..", "#####", "..#..", "..#..");
    }

    // ".. that it is white, and one of the next two neighbours round is black."
    private static void oneOfTheNextTwoRound() {
        // For 0,0 that is right, second after above: one.
        dueLines("the second one alone", ".##/#../#..", "###", "#..", "#..");
        // For 1,1 above to the right, next after above, and left, second after below: two.
        dueStays("the next one alone", "..#", "##.", "...");
        // For 1,0 below to the right and below, both after right, which yet is one.
        dueLines("both", "..../####", ".#..", "####");
    }

    // Round means that above comes again after above to the left.
    private static void theNextTwoRoundAfterLeft() {
        // For 0,2 that is above, second after left; after below there is none: one.
        dueLines("above, second after left", "#../#../.##", "#..", "#..", "###");
        // For 1,1 above to the left, next after left, and right, second after above: two.
        dueStays("above to the left, next after left", "#...", ".##.", "....");
    }

    // "It is an END, if just one neighbour is black."
    private static void endIfJustOneNeighbourIsBlack() {
        // Both are simple, and stay as ends.
        dueStays("one, at a side", "##");
        dueStays("one, at a corner", "#.", ".#");
        dueStays("none: no end, but not simple", "#");
        // 0,0 has two neighbours that are side by side: simple and no end.
        dueLines("two", "../##", "#.", "##");
    }

    // "THE LINES are at first what is black."
    private static void linesAreAtFirstWhatIsBlack() {
        Subject x = Checks.of("##.", "##.");
        CHECKS.due("at first", Checks.linesOf(x), "##./##.");
        CHECKS.due("none, if nothing is black", new Subject(3, 3).told(3), 0);
    }

    // "In the first half those come that have white above or left."
    private static void whiteAboveOrLeftInTheFirstHalf() {
        dueLines("above alone", "##.##/..#../..#..", "#####", "..#..", "..#..");
        dueLines("left alone", "#../#../.##/#../#..", "#..", "#..", "###", "#..", "#..");
        dueLines("both", ".##/#../#..", "###", "#..", "#..");
        // 1,3 has black above to the left till 0,2 has gone, but white left: it goes in the same half.
        Subject left = Checks.of(".#..", ".#..", "##..", ".###", ".#..", ".#..");
        CHECKS.due("left, not above to the left: passes", left.thin(), 1);
        CHECKS.due("left, not above to the left", Checks.linesOf(left), ".#../.#../.#../..##/.#../.#..");
        // If the halves changed places, 1,0 and 0,1 would go.
        dueLines("it is the first", "../##", "##", "##");
    }

    // "In the second those with white below or right."
    private static void whiteBelowOrRightInTheSecondHalf() {
        dueLines("below alone", "..#../..#../##.##", "..#..", "..#..", "#####");
        dueLines("right alone", "..#/..#/##./..#/..#", "..#", "..#", "###", "..#", "..#");
        dueLines("both", "..#/..#/##.", "..#", "..#", "###");
        // 2,2 has black below to the right, and black on all other sides.
        dueLines("below, not below to the right", "..#..#/..#.#./##.#../...#../...#..",
                "..#..#", "..#.#.", "####..", "...#..", "...#..");
        dueLines("right, not below to the right", "..#../..#../##.../..###/.#.../#....",
                "..#..", "..#..", "###..", "..###", ".#...", "#....");
    }

    // "They are all that are black then, no ends, and simple."
    private static void allThatAreBlackThen() {
        // 1,1 has black above and left at the half's beginning, so it does not come in the first.
        dueLines("what is opened by the half comes later", ".../.#./..#", "###", "###", "###");
    }

    // "Row by row each one that is still black, no end, and simple, goes."
    private static void stillBlackNoEndAndSimple() {
        // 0,1 comes with the upper row, but is an end when its turn is there.
        dueLines("an end by then", ".../###", "###", "###");
        // By columns 0,0 and 0,1 would go.
        dueLines("row by row", "../##", "##", "##");
    }

    // "So that nothing falls apart and no hole goes."
    private static void nothingFallsApartAndNoHoleGoes() {
        String[] rows = {
            "########..####",
            "########..#..#",
            "##...###..####",
            "##.#.###......",
            "##...###..##.#",
            "########..#.##",
            "########..####"};
        Subject x = Checks.of(rows);
        CHECKS.due("parts of the picture", x.parts(), 4);
        CHECKS.due("holes of the picture", x.holes(), 3);
        x.thin();
        CHECKS.due("parts of the lines", x.parts(), 4);
        CHECKS.due("holes of the lines", x.holes(), 3);
        CHECKS.due("fewer samples, though", x.told(3) < x.told(2), true);
    }

    // "Or at a corner, if neither of the two samples that have sides with both is black."
    private static void linkedAtACornerIfNeitherIsBlack() {
        CHECKS.due("neither", Checks.strokesOf(Checks.thinned("#.", ".#")), "0,0 1,1");
        // 2,1 has 1,2 and 3,2 at corners, but 2,2 between them: its one link is that below.
        Subject x = Checks.thinned(
            "..#..",
            "..#..",
            "#####",
            "..#..",
            "..#..");
        CHECKS.due("one of them", Checks.strokesOf(x),
                "2,0 2,1 2,2; 0,2 1,2 2,2; 2,2 3,2 4,2; 2,2 2,3 2,4");
        CHECKS.due("and so just one crossing", Checks.crossingsOf(x), " 2,2 by 4");
    }

    // "NODES are samples with other degrees than 2."
    private static void degreesOfNodes() {
        CHECKS.due("0", Checks.strokesOf(Checks.thinned("#")), "0,0");
        CHECKS.due("1, and 2 between them", Checks.strokesOf(Checks.thinned("###")), "0,0 1,0 2,0");
        CHECKS.due("3", Checks.strokesOf(Checks.thinned("#.#", ".#.", ".#.")),
                "0,0 1,1; 2,0 1,1; 1,1 1,2");
        CHECKS.due("4", Checks.strokesOf(Checks.thinned("#.#", ".#.", "#.#")),
                "0,0 1,1; 2,0 1,1; 1,1 2,2; 1,1 0,2");
    }

    // "CROSSINGS are those with 3 or more, in order of rows."
    private static void crossingsHaveThreeOrMoreInOrderOfRows() {
        CHECKS.due("2 is none", Checks.crossingsOf(Checks.thinned("#.#", ".#.")), "");
        CHECKS.due("3", Checks.crossingsOf(Checks.thinned("#.#", ".#.", ".#.")), " 1,1 by 3");
        CHECKS.due("4", Checks.crossingsOf(Checks.thinned("#.#", ".#.", "#.#")), " 1,1 by 4");
        Subject x = Checks.thinned(
            "#.#...#.#",
            ".#.....#.",
            "#..#.#..#",
            "....#....",
            "....#....");
        CHECKS.due("in order of rows", Checks.crossingsOf(x), " 1,1 by 3 7,1 by 3 4,3 by 3");
    }

    // "STROKES: for each node in order of rows .."
    private static void strokesByNodesInOrderOfRows() {
        Subject x = Checks.thinned(
            "....#.#",
            "..#....",
            "#.....#",
            "#.##..#");
        CHECKS.due("nodes in order of rows", Checks.strokesOf(x),
                "4,0; 6,0; 2,1; 0,2 0,3; 6,2 6,3; 2,3 3,3");
    }

    // ".. for each of its links, round from above .."
    private static void strokesByLinksRoundFromAbove() {
        // 3,3 is the first node: its loop goes by both corners above, its stems by those below.
        Subject x = Checks.thinned(
            "..###..",
            ".#...#.",
            "..#.#..",
            "...#...",
            "..#.#..",
            ".#...#.");
        CHECKS.due("round from above", Checks.strokesOf(x),
                "3,3 4,2 5,1 4,0 3,0 2,0 1,1 2,2 3,3; 3,3 4,4 5,5; 3,3 2,4 1,5");
    }

    // ".. that is part of no stroke yet."
    private static void eachLinkIsPartOfOneStroke() {
        CHECKS.due("a line is one stroke, not one from each end",
                Checks.thinned("####").strokes(), 1);
        // Two ways from 3,1 to 3,5, and two loose ends.
        Subject x = Checks.thinned(
            "...#...",
            "...#...",
            "..#.#..",
            ".#...#.",
            "..#.#..",
            "...#...",
            "...#...");
        CHECKS.due("two strokes of the same nodes", Checks.strokesOf(x),
                "3,0 3,1; 3,1 4,2 5,3 4,4 3,5; 3,1 2,2 1,3 2,4 3,5; 3,5 3,6");
    }

    // ".. to the next node (perhaps itself)."
    private static void toTheNextNodePerhapsItself() {
        // The least loop that there is: four links.
        Subject x = Checks.thinned(
            ".#.",
            "#.#",
            ".#.",
            ".#.");
        CHECKS.due("itself", Checks.strokesOf(x), "1,2 2,1 1,0 0,1 1,2; 1,2 1,3");
        // A node of two loops.
        Subject eight = Checks.thinned(
            ".#.",
            "#.#",
            ".#.",
            "#.#",
            ".#.");
        CHECKS.due("itself, twice", Checks.strokesOf(eight),
                "1,2 2,1 1,0 0,1 1,2; 1,2 2,3 1,4 0,3 1,2");
    }

    // "A node of degree 0 is a stroke by itself."
    private static void nodeOfDegreeNoneIsAStroke() {
        CHECKS.due("alone", Checks.strokesOf(Checks.thinned("...", ".#.", "...")), "1,1");
        CHECKS.due("where its row comes", Checks.strokesOf(Checks.thinned("##..", "...#", "....", "##..")),
                "0,0 1,0; 3,1; 0,3 1,3");
    }

    // "Then, for each sample in order of rows that is in no stroke yet (those of degree 2 that go
    // round): that, and the others along its first link round, till it would come again."
    private static void thoseThatGoRoundComeLast() {
        Subject x = Checks.thinned(
            ".#....#.",
            "#.#..#.#",
            ".#....#.",
            "........",
            "...#....");
        CHECKS.due("nodes first, then by rows", Checks.strokesOf(x),
                "3,4; 1,0 2,1 1,2 0,1; 6,0 7,1 6,2 5,1");
        CHECKS.due("right is before below to the left",
                Checks.strokesOf(Checks.thinned(".##.", "#..#", ".##.")), "1,0 2,0 3,1 2,2 1,2 0,1");
        // The inner one begins in a later row than the outer one.
        CHECKS.due("one within another", Checks.strokesOf(Checks.thinned(
                "..###..",
                ".#...#.",
                "#..#..#",
                "#.#.#.#",
                "#..#..#",
                ".#...#.",
                "..###..")),
                "2,0 3,0 4,0 5,1 6,2 6,3 6,4 5,5 4,6 3,6 2,6 1,5 0,4 0,3 0,2 1,1; 3,2 4,3 3,4 2,3");
    }
}
