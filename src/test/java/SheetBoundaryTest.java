/** Promises 9 to 17 (the sheet): one test for each sentence that names a boundary. */
public final class SheetBoundaryTest {
    private static final int NONE = LoopBoard.NONE;
    private static final int ALL = 1023;
    private static final int LEAST = Integer.MIN_VALUE;
    private static final int GREATEST = Integer.MAX_VALUE;
    private static final int[][] NO_CELLS_OF_3_BY_3 = {
        {3, 0}, {0, 3}, {3, 3}, {-1, 0}, {0, -1}, {-1, 1}, {3, -1}, {-1, 3}, {9, 0}, {0, 9}, {LEAST, 0},
        {0, LEAST}, {GREATEST, 0}, {0, GREATEST}, {LEAST, LEAST}, {GREATEST, GREATEST}
    };
    /** Two loops of four that meet in the middle. */
    private static final int[] TWO_LOOPS = {4, 5, 0, 3, 7, 5, 0, 3, 6};

    private static int failures = 0;
    private static int tests = 0;
    private static String sentence = "";

    private static void test(String name, Runnable body) {
        sentence = name;
        tests++;
        try {
            body.run();
        } catch (RuntimeException thrown) {
            failures++;
            System.out.println(sentence + ": threw " + thrown);
        }
    }

    private static void due(String what, long got, long want) {
        if (got != want) {
            failures++;
            System.out.println(sentence + ": " + what + " answered " + got + ", due is " + want);
        }
    }

    private static void due(String what, boolean got, boolean want) {
        due(what, got ? 1 : 0, want ? 1 : 0);
    }

    private static LoopBoard laid(int wide, int high, boolean arcs, int... tiles) {
        LoopBoard bench = new LoopBoard();
        due("board", bench.board(wide, high, arcs), true);
        for (int cell = 0; cell < tiles.length; cell++) {
            bench.put(cell % wide, cell / wide, tiles[cell]);
        }
        return bench;
    }

    private static LoopBoard twoLoops() {
        return laid(3, 3, false, TWO_LOOPS);
    }

    private static void dueTiles(LoopBoard bench, int wide, int... tiles) {
        for (int cell = 0; cell < tiles.length; cell++) {
            due("tile of cell " + cell, bench.tile(cell % wide, cell / wide), tiles[cell]);
        }
    }

    private static int without(int tile) {
        return ALL & ~(1 << tile);
    }

    // ---- 9, put

    private static void putTellsWhatItWas() {
        LoopBoard bench = new LoopBoard();
        int before = 0;
        for (int tile = 9; tile >= 0; tile--) {
            due("put(0, 0, " + tile + ")", bench.put(0, 0, tile), before);
            before = tile;
        }
        bench.put(0, 0, 5);
        due("put(0, 0, 5) again", bench.put(0, 0, 5), 5);
    }

    private static void putChangesOneCellAlone() {
        for (int cell = 0; cell < 9; cell++) {
            LoopBoard bench = laid(3, 3, false);
            bench.put(cell % 3, cell / 3, 8);
            int[] tiles = new int[9];
            tiles[cell] = 8;
            dueTiles(bench, 3, tiles);
        }
    }

    private static void putIsNoneWithoutSuchACell() {
        LoopBoard bench = twoLoops();
        for (int[] at : NO_CELLS_OF_3_BY_3) {
            due("put(" + at[0] + ", " + at[1] + ", 1)", bench.put(at[0], at[1], 1), NONE);
        }
        dueTiles(bench, 3, TWO_LOOPS);
    }

    private static void putIsNoneWithoutSuchATile() {
        LoopBoard bench = twoLoops();
        for (int tile : new int[] {-1, -2, 10, 11, 16, 256, LEAST, GREATEST}) {
            due("put(1, 1, " + tile + ")", bench.put(1, 1, tile), NONE);
        }
        dueTiles(bench, 3, TWO_LOOPS);
        due("loops()", bench.loops(), 2);
    }

    private static void putLaysATileThatIsNotAllowed() {
        LoopBoard bench = laid(3, 3, false);
        bench.allow(NONE, 0, 0);
        due("put(2, 2, 6)", bench.put(2, 2, 6), 0);
        due("tile(2, 2)", bench.tile(2, 2), 6);
        due("allowed(2, 2)", bench.allowed(2, 2), 0);
    }

    private static void putLaysATileThatDoesNotFit() {
        LoopBoard bench = laid(3, 3, false);
        due("put(0, 0, 9)", bench.put(0, 0, 9), 0);
        due("tile(0, 0)", bench.tile(0, 0), 9);
        due("count(NONE) does not look at it", bench.count(NONE), 20);
    }

    // ---- 10, tile

    private static void tileIsNoneWithoutSuchACell() {
        LoopBoard bench = twoLoops();
        for (int[] at : NO_CELLS_OF_3_BY_3) {
            due("tile(" + at[0] + ", " + at[1] + ")", bench.tile(at[0], at[1]), NONE);
        }
    }

    private static void tileOfTheLastCell() {
        LoopBoard bench = laid(5, 4, false);
        bench.put(4, 3, 9);
        due("tile(4, 3)", bench.tile(4, 3), 9);
        due("tile(3, 4)", bench.tile(3, 4), NONE);
        bench.board(4, 5, false);
        due("tile(3, 4) of 4 by 5", bench.tile(3, 4), 0);
        due("tile(4, 3) of 4 by 5", bench.tile(4, 3), NONE);
    }

    // ---- 11, loops

    private static void noLoopsOnAnEmptySheet() {
        due("1 by 1", new LoopBoard().loops(), 0);
        due("5 by 4", laid(5, 4, false).loops(), 0);
        due("4 by 4 with arcs", laid(4, 4, true).loops(), 0);
    }

    private static void loopsOfAFullSheet() {
        int[] most = {8, 7, 8, 7, 7, 8, 7, 8, 8, 7, 8, 7, 7, 8, 7, 8};
        due("the most with arcs", laid(4, 4, true, most).loops(), 12);
        int[] crossings = {9, 9, 9, 9, 9, 9, 9, 9, 9, 9, 9, 9, 9, 9, 9, 9};
        due("crossings alone", laid(4, 4, true, crossings).loops(), 4);
        due("two by two, the most", laid(2, 2, true, 8, 7, 7, 8).loops(), 4);
    }

    private static void loopsIsNoneWithSidesNotAgreedOn() {
        for (int cell = 0; cell < 9; cell++) {
            LoopBoard bench = twoLoops();
            // No cell of it has just an upper and a lower side, so this tile fits in none.
            bench.put(cell % 3, cell / 3, 1);
            due("loops() with cell " + cell + " spoilt", bench.loops(), NONE);
        }
    }

    private static void loopsIsNoneWithATileNotAllowed() {
        for (int cell = 0; cell < 9; cell++) {
            LoopBoard bench = twoLoops();
            bench.allow(cell % 3, cell / 3, without(TWO_LOOPS[cell]));
            due("loops() with cell " + cell + " not allowed", bench.loops(), NONE);
            bench.allow(cell % 3, cell / 3, 1 << TWO_LOOPS[cell]);
            due("loops() with it allowed alone", bench.loops(), 2);
        }
    }

    // ---- 12, wrong

    private static void wrongIsTheFirstOfSeveral() {
        LoopBoard bench = laid(3, 2, false, 0, 3, 0, 9, 0, 9);
        due("wrong()", bench.wrong(), 1);
        bench.put(1, 0, 0);
        due("wrong() when that is mended", bench.wrong(), 3);
        bench.put(0, 1, 0);
        due("wrong() when that is mended", bench.wrong(), 5);
        bench.put(2, 1, 0);
        due("wrong() when all is mended", bench.wrong(), 6);
    }

    private static void wrongTellsXAndWideTimesY() {
        for (int cell = 0; cell < 20; cell++) {
            LoopBoard bench = laid(5, 4, false);
            bench.allow(cell % 5, cell / 5, ALL - 1);
            due("wrong() of 5 by 4", bench.wrong(), cell);
            bench.board(4, 5, false);
            bench.allow(cell % 4, cell / 4, ALL - 1);
            due("wrong() of 4 by 5", bench.wrong(), cell);
        }
    }

    private static void wrongForATileThatIsNotAllowed() {
        for (int cell = 0; cell < 9; cell++) {
            LoopBoard bench = twoLoops();
            bench.allow(cell % 3, cell / 3, without(TWO_LOOPS[cell]));
            due("wrong()", bench.wrong(), cell);
        }
    }

    private static void wrongIsNotThatOfACellAheadThatFits() {
        LoopBoard bench = laid(2, 2, false, 4, 0, 0, 0);
        due("what the first leads to is behind it", bench.wrong(), 1);
        bench.put(1, 0, 5);
        due("what the first leads down to is behind it", bench.wrong(), 2);
        LoopBoard last = laid(2, 2, false, 4, 5, 3, 0);
        due("the last one", last.wrong(), 3);
    }

    private static void wrongForASideWithTheOneAtItsLeft() {
        due("it has none", laid(3, 3, false, 0, 0, 0, 4, 0).wrong(), 4);
        due("the one at its left has none", laid(3, 3, false, 0, 0, 0, 0, 5).wrong(), 4);
    }

    private static void wrongForASideWithTheOneAbove() {
        due("it has none", laid(3, 3, false, 0, 4, 5, 0, 0).wrong(), 4);
        due("the one above has none", laid(3, 3, false, 0, 0, 0, 0, 3).wrong(), 4);
    }

    private static void wrongForTheLastOfARowAndTheFirstOfTheNext() {
        due("they have no side in common", laid(2, 3, false, 0, 4, 5, 0).wrong(), 1);
        due("closed, the first of a row", laid(2, 3, false, 0, 0, 5, 0, 6).wrong(), 2);
    }

    private static void wrongForASideOfTheClosedBorder() {
        due("upper", laid(3, 3, false, 3, 6).wrong(), 0);
        due("left", laid(3, 3, false, 0, 0, 0, 5, 0, 0, 6).wrong(), 3);
        due("right", laid(3, 3, false, 0, 0, 0, 0, 0, 4, 0, 0, 3).wrong(), 5);
        due("lower", laid(3, 3, false, 0, 0, 0, 0, 0, 0, 0, 4, 5).wrong(), 7);
    }

    private static void wrongForAnArcToOneAhead() {
        due("upper, it has none", laid(2, 2, true, 3, 5, 0, 6).wrong(), 1);
        due("upper, the one ahead has none", laid(2, 2, true, 0, 1, 0, 1).wrong(), 1);
        due("left, it has none", laid(2, 2, true, 5, 0, 3, 0).wrong(), 2);
        due("left, the one ahead has none", laid(2, 2, true, 0, 0, 2, 2).wrong(), 2);
        due("right, it has none", laid(2, 2, true, 0, 4, 0, 1).wrong(), 3);
        due("right, the one ahead has none", laid(2, 2, true, 0, 0, 0, 4).wrong(), 3);
        due("lower, it has none", laid(4, 2, true, 0, 0, 0, 0, 4, 2).wrong(), 5);
        due("lower, the one ahead has none", laid(4, 2, true, 0, 4, 5, 0, 0, 1, 1, 0).wrong(), 5);
    }

    private static void wrongIsNotTheFirstEndOfAnArc() {
        due("upper and left", laid(2, 2, true, 6, 0).wrong(), 1);
        due("upper", laid(2, 2, true, 1, 1, 0, 0).wrong(), 2);
        due("right", laid(2, 2, true, 0, 4, 0, 0).wrong(), 3);
        due("lower", laid(2, 2, true, 0, 0, 4, 0).wrong(), 3);
    }

    private static void wrongIsAllCellsForAFilling() {
        due("of 1 by 1", new LoopBoard().wrong(), 1);
        due("of 3 by 3", twoLoops().wrong(), 9);
        due("of 5 by 4", laid(5, 4, false).wrong(), 20);
        due("of 4 by 4 with arcs", laid(4, 4, true, 3, 6).wrong(), 16);
    }

    private static void wrongIsZeroWithoutAFilling() {
        LoopBoard bench = laid(4, 4, true);
        bench.allow(NONE, 0, 0);
        due("wrong()", bench.wrong(), 0);
    }

    // ---- 13, find

    private static void findTheFirst() {
        LoopBoard bench = twoLoops();
        due("find(NONE, 0)", bench.find(NONE, 0), true);
        dueTiles(bench, 3, 0, 0, 0, 0, 0, 0, 0, 0, 0);
        due("find(2, 0)", bench.find(2, 0), true);
        dueTiles(bench, 3, 0, 4, 5, 4, 8, 6, 3, 6, 0);
    }

    private static void findTheLast() {
        LoopBoard bench = laid(3, 3, false);
        due("find(NONE, 19)", bench.find(NONE, 19), true);
        dueTiles(bench, 3, 4, 5, 0, 3, 9, 5, 0, 3, 6);
        due("find(2, 1)", bench.find(2, 1), true);
        dueTiles(bench, 3, TWO_LOOPS);
        LoopBoard arcs = laid(4, 4, true);
        due("find(NONE, last) with arcs", arcs.find(NONE, 148110719), true);
        due("rank(false)", arcs.rank(false), 148110719);
    }

    private static void findBehindTheLast() {
        LoopBoard bench = twoLoops();
        due("find(NONE, 20)", bench.find(NONE, 20), false);
        due("find(0, 1)", bench.find(0, 1), false);
        due("find(1, 17)", bench.find(1, 17), false);
        due("find(2, 2)", bench.find(2, 2), false);
        for (long rank : new long[] {GREATEST, 1L << 31, 1L << 32, (1L << 32) + 1, 1L << 62, Long.MAX_VALUE}) {
            due("find(NONE, " + rank + ")", bench.find(NONE, rank), false);
            due("find(1, " + rank + ")", bench.find(1, rank), false);
        }
        dueTiles(bench, 3, TWO_LOOPS);
        due("find(NONE, 148110720) with arcs", laid(4, 4, true).find(NONE, 148110720), false);
    }

    private static void findAheadOfTheFirst() {
        LoopBoard bench = twoLoops();
        for (long rank : new long[] {-1, -2, -20, LEAST, -(1L << 32), Long.MIN_VALUE, Long.MIN_VALUE + 1}) {
            due("find(NONE, " + rank + ")", bench.find(NONE, rank), false);
            due("find(1, " + rank + ")", bench.find(1, rank), false);
            due("find(3, " + rank + ")", bench.find(3, rank), false);
        }
        dueTiles(bench, 3, TWO_LOOPS);
    }

    private static void findWithLoopsThatNoFillingHas() {
        LoopBoard bench = twoLoops();
        for (int loops : new int[] {3, 4, 12, 13, 14, 21, 1 << 30, GREATEST, -2, -3, LEAST}) {
            due("find(" + loops + ", 0)", bench.find(loops, 0), false);
        }
        dueTiles(bench, 3, TWO_LOOPS);
    }

    private static void findWithoutAFilling() {
        LoopBoard bench = twoLoops();
        bench.allow(2, 2, 0);
        due("find(NONE, 0)", bench.find(NONE, 0), false);
        due("find(0, 0)", bench.find(0, 0), false);
        due("find(1, 0)", bench.find(1, 0), false);
        dueTiles(bench, 3, TWO_LOOPS);
    }

    private static void findLeavesASheetThatIsNoFilling() {
        LoopBoard bench = laid(2, 2, false, 9, 8, 7, 1);
        due("find(NONE, 2)", bench.find(NONE, 2), false);
        dueTiles(bench, 2, 9, 8, 7, 1);
        due("find(NONE, 1)", bench.find(NONE, 1), true);
        dueTiles(bench, 2, 4, 5, 3, 6);
    }

    private static void findHasAllowedTilesAlone() {
        LoopBoard bench = laid(3, 3, false);
        bench.allow(1, 1, 255);
        due("find(NONE, 15)", bench.find(NONE, 15), true);
        due("tile(1, 1)", bench.tile(1, 1), 7);
        due("find(NONE, 16)", bench.find(NONE, 16), false);
        due("wrong()", bench.wrong(), 9);
        due("allowed(1, 1)", bench.allowed(1, 1), 255);
    }

    // ---- 14, rank

    private static void rankOfTheFirstIsZero() {
        due("rank(false)", laid(5, 4, false).rank(false), 0);
        due("rank(true)", laid(5, 4, false).rank(true), 0);
        due("rank(false) with arcs", laid(4, 4, true).rank(false), 0);
        due("rank(true) of the first with two loops", laid(3, 3, false, 0, 4, 5, 4, 8, 6, 3, 6, 0).rank(true), 0);
    }

    private static void rankOfTheLast() {
        LoopBoard bench = laid(3, 3, false, 4, 5, 0, 3, 9, 5, 0, 3, 6);
        due("rank(false)", bench.rank(false), 19);
        due("rank(true)", bench.rank(true), 16);
    }

    private static void rankAmongThoseWithAsManyLoops() {
        due("rank(true)", twoLoops().rank(true), 1);
        due("rank(false)", twoLoops().rank(false), 17);
    }

    private static void rankCountsAllowedTilesAlone() {
        LoopBoard bench = laid(3, 3, false, 4, 5, 0, 3, 7, 5, 0, 3, 6);
        for (int cell = 0; cell < 9; cell++) {
            bench.allow(cell % 3, cell / 3, 1 << TWO_LOOPS[cell]);
        }
        due("rank(false) when it is the one filling", bench.rank(false), 0);
        due("rank(true) when it is the one filling", bench.rank(true), 0);
        bench.allow(1, 1, ALL);
        due("rank(false) of three", bench.rank(false), 0);
        bench.put(1, 1, 9);
        due("rank(false) of the last of three", bench.rank(false), 2);
        due("rank(true) of the last of three", bench.rank(true), 1);
    }

    private static void rankCountsNoLesserTileThatIsNotAllowed() {
        LoopBoard bench = laid(3, 2, false, 4, 5, 0, 3, 6, 0);
        due("rank(false)", bench.rank(false), 3);
        due("rank(true)", bench.rank(true), 2);
        bench.allow(0, 0, without(0));
        due("rank(false), none empty at first", bench.rank(false), 1);
        due("rank(true), none empty at first", bench.rank(true), 1);
        bench.allow(1, 0, without(2));
        due("rank(false), nor straight at second", bench.rank(false), 0);
        due("rank(true), nor straight at second", bench.rank(true), 0);
    }

    private static void rankOfTheLastWithSoManyLoops() {
        LoopBoard bench = laid(4, 4, true);
        for (int loops = 0; loops <= 12; loops++) {
            long last = bench.count(loops) - 1;
            due("find(" + loops + ", " + last + ")", bench.find(loops, last), true);
            due("loops()", bench.loops(), loops);
            due("rank(true) with " + loops, bench.rank(true), last);
            due("find(" + loops + ", " + last / 2 + ")", bench.find(loops, last / 2), true);
            due("rank(true) with " + loops + ", of the middle", bench.rank(true), last / 2);
        }
    }

    private static void rankIsNoneWhenItIsNoFilling() {
        LoopBoard bench = laid(3, 3, false, 4, 5, 0, 3, 7, 5, 0, 3, 0);
        due("rank(false), sides", bench.rank(false), NONE);
        due("rank(true), sides", bench.rank(true), NONE);
        LoopBoard other = twoLoops();
        other.allow(2, 2, 1);
        due("rank(false), not allowed", other.rank(false), NONE);
        due("rank(true), not allowed", other.rank(true), NONE);
    }

    private static void rankLeavesTheSheet() {
        LoopBoard bench = twoLoops();
        bench.rank(true);
        bench.rank(false);
        bench.longest();
        bench.same(0, 0, 0, 2, 2, 0);
        dueTiles(bench, 3, TWO_LOOPS);
    }

    // ---- 15, length

    private static void lengthOfFirstAndSecondPiece() {
        LoopBoard bench = laid(5, 4, false, 4, 5, 0, 0, 0, 3, 7, 2, 2, 5, 0, 3, 2, 2, 6);
        due("length(1, 1, 0)", bench.length(1, 1, 0), 4);
        due("length(1, 1, 1)", bench.length(1, 1, 1), 8);
    }

    private static void lengthIsZeroInAnEmptyCell() {
        due("length(2, 0, 0)", twoLoops().length(2, 0, 0), 0);
        due("length(2, 0, 1)", twoLoops().length(2, 0, 1), 0);
        due("length(0, 0, 0) of 1 by 1", new LoopBoard().length(0, 0, 0), 0);
    }

    private static void lengthIsZeroWithoutASecondPiece() {
        LoopBoard bench = laid(3, 3, false, 4, 2, 5, 1, 0, 1, 3, 2, 6);
        for (int cell = 0; cell < 9; cell++) {
            due("first of cell " + cell, bench.length(cell % 3, cell / 3, 0), cell == 4 ? 0 : 8);
            due("second of cell " + cell, bench.length(cell % 3, cell / 3, 1), 0);
        }
    }

    private static void lengthIsNoneWhenItIsNoFilling() {
        LoopBoard bench = laid(3, 3, false, 4, 5, 0, 3, 7, 5, 0, 3, 0);
        for (int cell = 0; cell < 9; cell++) {
            due("first of cell " + cell, bench.length(cell % 3, cell / 3, 0), NONE);
            due("second of cell " + cell, bench.length(cell % 3, cell / 3, 1), NONE);
        }
        LoopBoard other = twoLoops();
        other.allow(2, 0, ALL - 1);
        due("an empty cell, not allowed", other.length(2, 0, 0), NONE);
    }

    private static void lengthIsNoneWithoutSuchACell() {
        LoopBoard bench = twoLoops();
        for (int[] at : NO_CELLS_OF_3_BY_3) {
            due("length(" + at[0] + ", " + at[1] + ", 0)", bench.length(at[0], at[1], 0), NONE);
            due("length(" + at[0] + ", " + at[1] + ", 1)", bench.length(at[0], at[1], 1), NONE);
        }
    }

    private static void lengthIsNoneWithoutSuchAPieceNumber() {
        LoopBoard bench = twoLoops();
        for (int piece : new int[] {-1, -2, 2, 3, 256, LEAST, GREATEST}) {
            due("length(1, 1, " + piece + ")", bench.length(1, 1, piece), NONE);
            due("length(2, 0, " + piece + ")", bench.length(2, 0, piece), NONE);
        }
    }

    private static void lengthOfTheLongestThereIs() {
        // Every cell has two pieces, and all of them are of one loop.
        LoopBoard bench = laid(4, 4, true);
        bench.allow(NONE, 0, 7 << 7);
        due("find(1, 0)", bench.find(1, 0), true);
        due("length(0, 0, 0)", bench.length(0, 0, 0), 32);
        due("length(3, 3, 1)", bench.length(3, 3, 1), 32);
        due("longest()", bench.longest(), 32);
        due("same(0, 0, 0, 3, 3, 1)", bench.same(0, 0, 0, 3, 3, 1), 1);
    }

    // ---- 16, longest

    private static void longestIsZeroWithoutALoop() {
        due("of 1 by 1", new LoopBoard().longest(), 0);
        due("of 4 by 4 with arcs", laid(4, 4, true).longest(), 0);
    }

    private static void longestIsTheGreatest() {
        due("it comes last", laid(5, 4, false, 4, 5, 0, 0, 0, 3, 7, 2, 2, 5, 0, 3, 2, 2, 6).longest(), 8);
        due("it comes first", laid(5, 4, false, 4, 2, 2, 5, 0, 3, 2, 2, 7, 5, 0, 0, 0, 3, 6).longest(), 8);
        due("two of the same", twoLoops().longest(), 4);
    }

    private static void longestIsNoneWhenItIsNoFilling() {
        due("sides", laid(3, 3, false, 4, 5, 0, 3, 7, 5, 0, 3, 0).longest(), NONE);
        LoopBoard bench = new LoopBoard();
        bench.allow(0, 0, ALL - 1);
        due("an empty sheet, not allowed", bench.longest(), NONE);
    }

    // ---- 17, same

    private static void sameLoop() {
        due("side by side", twoLoops().same(0, 0, 0, 1, 0, 0), 1);
        due("the other way round", twoLoops().same(1, 0, 0, 0, 0, 0), 1);
        due("a piece and itself", twoLoops().same(1, 1, 1, 1, 1, 1), 1);
        LoopBoard crossed = laid(3, 3, false, 4, 5, 0, 3, 9, 5, 0, 3, 6);
        due("both pieces of a cell", crossed.same(1, 1, 0, 1, 1, 1), 1);
    }

    private static void twoLoopsAreNotTheSame() {
        due("both pieces of a cell", twoLoops().same(1, 1, 0, 1, 1, 1), 0);
        due("first and last", twoLoops().same(0, 0, 0, 2, 2, 0), 0);
        due("last and first", twoLoops().same(2, 2, 0, 0, 0, 0), 0);
    }

    private static void sameForgetsWhatWasAskedAhead() {
        LoopBoard bench = twoLoops();
        bench.longest();
        bench.length(2, 2, 0);
        due("after the other loop was followed", bench.same(0, 0, 0, 2, 2, 0), 0);
        due("and of one loop", bench.same(2, 1, 0, 2, 2, 0), 1);
        due("and of two again", bench.same(2, 1, 0, 0, 1, 0), 0);
        due("the loop of the first cell", bench.same(1, 0, 0, 0, 0, 0), 1);
        due("and no more of that", bench.same(2, 2, 0, 0, 0, 0), 0);
    }

    private static void sameIsNoneWhenItIsNoFilling() {
        LoopBoard bench = laid(3, 3, false, 4, 5, 0, 3, 7, 5, 0, 3, 0);
        due("sides", bench.same(0, 0, 0, 1, 0, 0), NONE);
        due("a piece and itself", bench.same(0, 0, 0, 0, 0, 0), NONE);
        LoopBoard other = twoLoops();
        other.allow(2, 2, 1);
        due("not allowed", other.same(0, 0, 0, 1, 0, 0), NONE);
    }

    private static void sameIsNoneWithoutSuchACell() {
        LoopBoard bench = twoLoops();
        for (int[] at : NO_CELLS_OF_3_BY_3) {
            due("the first at " + at[0] + ", " + at[1], bench.same(at[0], at[1], 0, 1, 1, 0), NONE);
            due("the second at " + at[0] + ", " + at[1], bench.same(1, 1, 0, at[0], at[1], 0), NONE);
            due("both at " + at[0] + ", " + at[1], bench.same(at[0], at[1], 0, at[0], at[1], 0), NONE);
        }
    }

    private static void sameIsNoneWithoutSuchAPiece() {
        LoopBoard bench = twoLoops();
        due("the first in an empty cell", bench.same(2, 0, 0, 1, 1, 0), NONE);
        due("the second in an empty cell", bench.same(1, 1, 0, 2, 0, 0), NONE);
        due("twice the same empty cell", bench.same(2, 0, 0, 2, 0, 0), NONE);
        due("the first without a second piece", bench.same(0, 0, 1, 1, 1, 0), NONE);
        due("the second without a second piece", bench.same(1, 1, 0, 0, 0, 1), NONE);
        for (int piece : new int[] {-1, -2, 2, 3, LEAST, GREATEST}) {
            due("piece " + piece, bench.same(1, 1, piece, 0, 0, 0), NONE);
            due("other " + piece, bench.same(0, 0, 0, 1, 1, piece), NONE);
        }
    }

    private static void testTiles() {
        test("9: what it was", SheetBoundaryTest::putTellsWhatItWas);
        test("9: a tile", SheetBoundaryTest::putChangesOneCellAlone);
        test("9: NONE, no such cell", SheetBoundaryTest::putIsNoneWithoutSuchACell);
        test("9: NONE, no such tile", SheetBoundaryTest::putIsNoneWithoutSuchATile);
        test("9: not allowed", SheetBoundaryTest::putLaysATileThatIsNotAllowed);
        test("9: does not fit", SheetBoundaryTest::putLaysATileThatDoesNotFit);
        test("10: NONE, none such", SheetBoundaryTest::tileIsNoneWithoutSuchACell);
        test("10: the last cell", SheetBoundaryTest::tileOfTheLastCell);
        test("11: an empty sheet", SheetBoundaryTest::noLoopsOnAnEmptySheet);
        test("11: a full sheet", SheetBoundaryTest::loopsOfAFullSheet);
        test("11: NONE, sides", SheetBoundaryTest::loopsIsNoneWithSidesNotAgreedOn);
        test("11: NONE, not allowed", SheetBoundaryTest::loopsIsNoneWithATileNotAllowed);
        test("12: the first", SheetBoundaryTest::wrongIsTheFirstOfSeveral);
        test("12: x and wide times y", SheetBoundaryTest::wrongTellsXAndWideTimesY);
        test("12: not allowed", SheetBoundaryTest::wrongForATileThatIsNotAllowed);
        test("12: ahead of it alone", SheetBoundaryTest::wrongIsNotThatOfACellAheadThatFits);
        test("12: the one at its left", SheetBoundaryTest::wrongForASideWithTheOneAtItsLeft);
        test("12: the one above", SheetBoundaryTest::wrongForASideWithTheOneAbove);
        test("12: from row to row", SheetBoundaryTest::wrongForTheLastOfARowAndTheFirstOfTheNext);
        test("12: the border", SheetBoundaryTest::wrongForASideOfTheClosedBorder);
        test("12: an arc to one ahead", SheetBoundaryTest::wrongForAnArcToOneAhead);
        test("12: an arc to one behind", SheetBoundaryTest::wrongIsNotTheFirstEndOfAnArc);
        test("12: a filling", SheetBoundaryTest::wrongIsAllCellsForAFilling);
        test("12: there is no filling", SheetBoundaryTest::wrongIsZeroWithoutAFilling);
    }

    private static void testRanks() {
        test("13: from 0 on", SheetBoundaryTest::findTheFirst);
        test("13: the last", SheetBoundaryTest::findTheLast);
        test("13: false, too great", SheetBoundaryTest::findBehindTheLast);
        test("13: false, below 0", SheetBoundaryTest::findAheadOfTheFirst);
        test("13: false, so many loops", SheetBoundaryTest::findWithLoopsThatNoFillingHas);
        test("13: false, no filling", SheetBoundaryTest::findWithoutAFilling);
        test("13: it stays", SheetBoundaryTest::findLeavesASheetThatIsNoFilling);
        test("13: allowed tiles", SheetBoundaryTest::findHasAllowedTilesAlone);
        test("14: the first", SheetBoundaryTest::rankOfTheFirstIsZero);
        test("14: the last", SheetBoundaryTest::rankOfTheLast);
        test("14: same", SheetBoundaryTest::rankAmongThoseWithAsManyLoops);
        test("14: allowed tiles", SheetBoundaryTest::rankCountsAllowedTilesAlone);
        test("14: not allowed", SheetBoundaryTest::rankCountsNoLesserTileThatIsNotAllowed);
        test("14: same, the last", SheetBoundaryTest::rankOfTheLastWithSoManyLoops);
        test("14: NONE, no filling", SheetBoundaryTest::rankIsNoneWhenItIsNoFilling);
        test("14: the sheet stays", SheetBoundaryTest::rankLeavesTheSheet);
    }

    private static void testLoops() {
        test("15: first and second", SheetBoundaryTest::lengthOfFirstAndSecondPiece);
        test("15: 0, an empty cell", SheetBoundaryTest::lengthIsZeroInAnEmptyCell);
        test("15: 0, no second piece", SheetBoundaryTest::lengthIsZeroWithoutASecondPiece);
        test("15: NONE, no filling", SheetBoundaryTest::lengthIsNoneWhenItIsNoFilling);
        test("15: NONE, no such cell", SheetBoundaryTest::lengthIsNoneWithoutSuchACell);
        test("15: NONE, no such piece", SheetBoundaryTest::lengthIsNoneWithoutSuchAPieceNumber);
        test("15: the longest there is", SheetBoundaryTest::lengthOfTheLongestThereIs);
        test("16: 0 without any", SheetBoundaryTest::longestIsZeroWithoutALoop);
        test("16: the greatest", SheetBoundaryTest::longestIsTheGreatest);
        test("16: NONE, no filling", SheetBoundaryTest::longestIsNoneWhenItIsNoFilling);
        test("17: 1", SheetBoundaryTest::sameLoop);
        test("17: 0", SheetBoundaryTest::twoLoopsAreNotTheSame);
        test("17: call after call", SheetBoundaryTest::sameForgetsWhatWasAskedAhead);
        test("17: NONE, no filling", SheetBoundaryTest::sameIsNoneWhenItIsNoFilling);
        test("17: NONE, no such cell", SheetBoundaryTest::sameIsNoneWithoutSuchACell);
        test("17: NONE, no such piece", SheetBoundaryTest::sameIsNoneWithoutSuchAPiece);
    }

    public static void main(String[] args) {
        testTiles();
        testRanks();
        testLoops();
        System.out.println(tests + " tests, " + failures + " answers not as due");
        if (failures != 0) {
            System.exit(1);
        }
    }
}
