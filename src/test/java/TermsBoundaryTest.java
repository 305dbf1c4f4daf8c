import java.util.Arrays;

/** Terms I and II, and the face's constant: one test for each sentence that names a boundary. */
public final class TermsBoundaryTest {
    private static final int NONE = LoopBoard.NONE;
    private static final int LEAST = Integer.MIN_VALUE;
    private static final int GREATEST = Integer.MAX_VALUE;
    /** The sides of each tile, as the document tells them. */
    private static final String[] SIDES = {"", "ud", "lr", "ur", "rd", "dl", "lu", "uldr", "urdl", "udlr"};

    private static int failures = 0;
    private static int tests = 0;
    private static String sentence = "";

    private static void test(String name, Runnable body) {
        sentence = name;
        tests++;
        try {
            body.run();
        } catch (RuntimeException thrown) {
            failures++;
            System.out.println(sentence + ": threw " + thrown);
        }
    }

    private static void due(String what, long got, long want) {
        if (got != want) {
            failures++;
            System.out.println(sentence + ": " + what + " answered " + got + ", due is " + want);
        }
    }

    private static void due(String what, boolean got, boolean want) {
        due(what, got ? 1 : 0, want ? 1 : 0);
    }

    private static LoopBoard laid(int wide, int high, boolean arcs, int... tiles) {
        LoopBoard bench = new LoopBoard();
        due("board", bench.board(wide, high, arcs), true);
        for (int cell = 0; cell < tiles.length; cell++) {
            bench.put(cell % wide, cell / wide, tiles[cell]);
        }
        return bench;
    }

    /** A sheet of 4 by 4 with arcs that is empty but for two cells. */
    private static LoopBoard two(int cell, int tile, int other, int otherTile) {
        int[] tiles = new int[16];
        tiles[cell] = tile;
        tiles[other] = otherTile;
        return laid(4, 4, true, tiles);
    }

    private static int[] sheetOf(LoopBoard bench, int wide, int high) {
        int[] tiles = new int[wide * high];
        for (int cell = 0; cell < tiles.length; cell++) {
            tiles[cell] = bench.tile(cell % wide, cell / wide);
        }
        return tiles;
    }

    private static void noneIsMinusOne() {
        due("NONE", LoopBoard.NONE, -1);
    }

    private static void oneAndFiveAreSizes() {
        LoopBoard bench = new LoopBoard();
        for (int size = 1; size <= 5; size++) {
            due("board(" + size + ", 1, false)", bench.board(size, 1, false), true);
            due("its last cell", bench.tile(size - 1, 0), 0);
            due("the one beside it", bench.tile(size, 0), NONE);
            due("board(1, " + size + ", false)", bench.board(1, size, false), true);
            due("its last cell", bench.tile(0, size - 1), 0);
            due("the one below it", bench.tile(0, size), NONE);
        }
    }

    private static void lessThanOneIsNoSize() {
        LoopBoard bench = new LoopBoard();
        for (int size : new int[] {0, -1, -2, -5, LEAST}) {
            due("board(" + size + ", 1, false)", bench.board(size, 1, false), false);
            due("board(1, " + size + ", false)", bench.board(1, size, false), false);
            due("both " + size, bench.board(size, size, false), false);
        }
    }

    private static void moreThanFiveIsNoSize() {
        LoopBoard bench = new LoopBoard();
        for (int size : new int[] {6, 7, 10, 20, 65536, GREATEST}) {
            due("board(" + size + ", 1, false)", bench.board(size, 1, false), false);
            due("board(1, " + size + ", false)", bench.board(1, size, false), false);
            due("both " + size, bench.board(size, size, false), false);
        }
        due("board(10, 2, true)", bench.board(10, 2, true), false);
        due("board(2, 6, true)", bench.board(2, 6, true), false);
    }

    private static void twentyCellsAtMost() {
        LoopBoard bench = new LoopBoard();
        due("board(5, 4, false)", bench.board(5, 4, false), true);
        due("wrong() of 5 by 4", bench.wrong(), 20);
        due("board(4, 5, false)", bench.board(4, 5, false), true);
        due("wrong() of 4 by 5", bench.wrong(), 20);
        due("board(5, 5, false)", bench.board(5, 5, false), false);
        due("wrong() is still of 20 cells", bench.wrong(), 20);
    }

    private static void oneByOneAtFirst() {
        LoopBoard bench = new LoopBoard();
        due("wrong()", bench.wrong(), 1);
        due("tile(0, 0)", bench.tile(0, 0), 0);
        due("tile(1, 0)", bench.tile(1, 0), NONE);
        due("tile(0, 1)", bench.tile(0, 1), NONE);
    }

    private static void xGoesRightAndYDown() {
        LoopBoard bench = laid(5, 2, false);
        bench.put(4, 0, 7);
        due("tile(4, 0)", bench.tile(4, 0), 7);
        due("wrong(), in the upper row", bench.wrong(), 4);
        bench.put(4, 0, 0);
        bench.put(0, 1, 7);
        due("wrong(), in the lower row", bench.wrong(), 5);
        bench.board(2, 5, false);
        due("tile(4, 0) of 2 by 5", bench.tile(4, 0), NONE);
        due("tile(0, 4) of 2 by 5", bench.tile(0, 4), 0);
    }

    /** Asks the four neighbours of a tile whether they lead to it. */
    private static void eachTileHasItsSides() {
        int[][] leading = {{1, 0, 4, 5}, {2, 1, 5, 6}, {1, 2, 3, 6}, {0, 1, 3, 4}};
        String names = "urdl";
        for (int tile = 0; tile < 10; tile++) {
            LoopBoard bench = laid(3, 3, false);
            bench.allow(1, 1, 1 << tile);
            long all = bench.count(NONE);
            due("tile " + tile + " is in a filling", all > 0, true);
            for (int side = 0; side < 4; side++) {
                int[] at = leading[side];
                long lead = bench.having(at[0], at[1], at[2]) + bench.having(at[0], at[1], at[3]);
                boolean has = SIDES[tile].indexOf(names.charAt(side)) >= 0;
                due("tile " + tile + " at side " + names.charAt(side), lead, has ? all : 0);
            }
        }
    }

    private static void tilesOfNoneOneAndTwoPieces() {
        for (int tile = 0; tile < 10; tile++) {
            LoopBoard bench = laid(3, 3, false);
            bench.allow(1, 1, 1 << tile);
            due("find with tile " + tile, bench.find(NONE, 0), true);
            due("first piece of " + tile, bench.length(1, 1, 0) > 0, tile > 0);
            due("second piece of " + tile, bench.length(1, 1, 1) > 0, tile > 6);
        }
    }

    private static void tileSevenIsUpAndLeftThenDownAndRight() {
        LoopBoard bench = laid(3, 3, false, 4, 5, 0, 3, 7, 5, 0, 3, 6);
        due("loops()", bench.loops(), 2);
        due("first, up", bench.same(1, 1, 0, 1, 0, 0), 1);
        due("first, left", bench.same(1, 1, 0, 0, 1, 0), 1);
        due("first, down", bench.same(1, 1, 0, 1, 2, 0), 0);
        due("second, down", bench.same(1, 1, 1, 1, 2, 0), 1);
        due("second, right", bench.same(1, 1, 1, 2, 1, 0), 1);
        due("second, up", bench.same(1, 1, 1, 1, 0, 0), 0);
    }

    private static void tileEightIsUpAndRightThenDownAndLeft() {
        LoopBoard bench = laid(3, 3, false, 0, 4, 5, 4, 8, 6, 3, 6, 0);
        due("loops()", bench.loops(), 2);
        due("first, up", bench.same(1, 1, 0, 1, 0, 0), 1);
        due("first, right", bench.same(1, 1, 0, 2, 1, 0), 1);
        due("first, down", bench.same(1, 1, 0, 1, 2, 0), 0);
        due("second, down", bench.same(1, 1, 1, 1, 2, 0), 1);
        due("second, left", bench.same(1, 1, 1, 0, 1, 0), 1);
        due("second, up", bench.same(1, 1, 1, 1, 0, 0), 0);
    }

    /** The upright pieces of the upper row and the first pieces of the lower one make a loop by themselves. */
    private static void tileNineIsUpAndDownThenLeftAndRight() {
        LoopBoard bench = laid(2, 2, true, 9, 9, 8, 7);
        due("loops()", bench.loops(), 2);
        due("first, to the one below that goes up and right", bench.same(0, 0, 0, 0, 1, 0), 1);
        due("first, to the one beside it by the upper arc", bench.same(0, 0, 0, 1, 0, 0), 1);
        due("first, to the one below that goes down and left", bench.same(0, 0, 0, 0, 1, 1), 0);
        due("second, by the left arc", bench.same(0, 0, 1, 0, 1, 1), 1);
        due("second, to the one beside it", bench.same(0, 0, 1, 1, 0, 1), 1);
        due("second, to the one below", bench.same(0, 0, 1, 0, 1, 0), 0);
    }

    private static void aFillingHasAllowedTilesAlone() {
        LoopBoard bench = laid(2, 2, false, 4, 5, 3, 6);
        due("loops() when all are allowed", bench.loops(), 1);
        for (int cell = 0; cell < 4; cell++) {
            bench.allow(NONE, 0, 1023);
            bench.allow(cell % 2, cell / 2, 1023 & ~(1 << bench.tile(cell % 2, cell / 2)));
            due("loops(), cell " + cell + " not allowed", bench.loops(), NONE);
            due("wrong(), cell " + cell + " not allowed", bench.wrong(), cell);
            due("count(1), cell " + cell + " not allowed", bench.count(1), 0);
        }
    }

    private static void neighboursSideBySideAgree() {
        due("both have", laid(2, 2, false, 4, 5, 3, 6).wrong(), 4);
        due("none has", laid(2, 2, false, 0, 0, 0, 0).wrong(), 4);
        due("the left one alone", laid(2, 2, false, 4, 0, 3, 6).wrong(), 1);
        due("the right one alone", laid(2, 2, false, 0, 5, 0, 6).wrong(), 1);
    }

    private static void neighboursOneAboveTheOtherAgree() {
        due("the upper one alone", laid(2, 2, false, 4, 5, 0, 6).wrong(), 2);
        due("the lower one alone", laid(2, 2, false, 0, 0, 3, 6).wrong(), 2);
        due("the upper one alone, at last", laid(2, 2, false, 4, 5, 3, 2).wrong(), 3);
    }

    /** Each of these would be closed if its edge had an arc. */
    private static void noPieceEndsAtAClosedBorder() {
        due("at the upper edge", laid(4, 4, false, 3, 6).wrong(), 0);
        due("at the left edge", laid(4, 4, false, 5, 0, 0, 0, 6).wrong(), 0);
        due("at the right edge", laid(4, 4, false, 0, 0, 0, 4, 0, 0, 0, 3).wrong(), 3);
        due("at the lower edge", laid(4, 4, false, 0, 0, 0, 0, 0, 0, 0, 0, 0, 0, 0, 0, 4, 5).wrong(), 12);
        due("fillings of one column", laid(1, 5, false).count(NONE), 1);
        due("fillings of one row", laid(5, 1, false).count(NONE), 1);
    }

    private static void arcsNeedEvenSizes() {
        LoopBoard bench = new LoopBoard();
        for (int wide = 1; wide <= 5; wide++) {
            for (int high = 1; high <= 5; high++) {
                boolean even = (wide == 2 || wide == 4) && (high == 2 || high == 4);
                due("board(" + wide + ", " + high + ", true)", bench.board(wide, high, true), even);
            }
        }
    }

    private static void anArcJoinsTwoEnds() {
        for (int k = 0; k < 2; k++) {
            LoopBoard upper = two(2 * k, 3, 2 * k + 1, 6);
            due("wrong(), upper arc " + k, upper.wrong(), 16);
            due("loops(), upper arc " + k, upper.loops(), 1);
            LoopBoard lower = two(12 + 2 * k, 4, 13 + 2 * k, 5);
            due("wrong(), lower arc " + k, lower.wrong(), 16);
            due("loops(), lower arc " + k, lower.loops(), 1);
            LoopBoard left = two(8 * k, 5, 8 * k + 4, 6);
            due("wrong(), left arc " + k, left.wrong(), 16);
            due("loops(), left arc " + k, left.loops(), 1);
            LoopBoard right = two(8 * k + 3, 4, 8 * k + 7, 3);
            due("wrong(), right arc " + k, right.wrong(), 16);
            due("loops(), right arc " + k, right.loops(), 1);
        }
    }

    private static void anArcMayHaveNoEnd() {
        for (int size = 2; size <= 4; size += 2) {
            LoopBoard bench = laid(size, size, true);
            due("wrong() of an empty sheet", bench.wrong(), size * size);
            due("loops() of an empty sheet", bench.loops(), 0);
        }
        due("wrong() of a loop inside", laid(4, 4, true, 0, 0, 0, 0, 0, 4, 5, 0, 0, 3, 6, 0).wrong(), 16);
    }

    private static void noArcHasItsFirstEndAlone() {
        due("upper arc 0", two(0, 3, 1, 5).wrong(), 1);
        due("upper arc 1", two(2, 3, 3, 5).wrong(), 3);
        due("left arc 0", two(0, 5, 4, 3).wrong(), 4);
        due("left arc 1", two(8, 5, 12, 3).wrong(), 12);
        due("right arc 0", two(3, 4, 7, 1).wrong(), 7);
        due("right arc 1", two(11, 4, 15, 1).wrong(), 15);
        due("lower arc 0", two(12, 4, 13, 2).wrong(), 13);
        due("lower arc 1", two(14, 4, 15, 2).wrong(), 15);
    }

    private static void noArcHasItsSecondEndAlone() {
        due("upper arc 0", two(1, 1, 5, 1).wrong(), 1);
        due("upper arc 1", two(3, 1, 7, 1).wrong(), 3);
        due("left arc 0", two(4, 2, 5, 2).wrong(), 4);
        due("left arc 1", two(12, 2, 13, 2).wrong(), 12);
        due("right arc 0", two(6, 4, 7, 2).wrong(), 7);
        due("lower arc 0",
            laid(4, 4, true, 0, 4, 5, 0, 0, 1, 1, 0, 0, 1, 1, 0, 0, 1, 1, 0).wrong(), 13);
        // All ends are even in number, so at the last cell both of its arcs are wrong or none.
        due("right arc 1 and lower arc 1", two(14, 0, 15, 4).wrong(), 15);
        due("right arc 0, the line comes from the left",
            laid(4, 4, true, 0, 0, 0, 0, 4, 2, 2, 2, 3, 2, 2, 2).wrong(), 7);
    }

    private static void arcsJoinNoOtherTwo() {
        due("columns 1 and 2 above", two(1, 3, 2, 6).wrong(), 1);
        due("columns 1 and 2 below", two(13, 4, 14, 5).wrong(), 13);
        due("rows 1 and 2 at the left", two(4, 5, 8, 6).wrong(), 4);
        due("rows 1 and 2 at the right", two(7, 4, 11, 3).wrong(), 7);
        due("columns 0 and 3 above", laid(4, 4, true, 3, 2, 2, 6).wrong(), 1);
    }

    private static void aCornerHasEndsOfTwoArcs() {
        LoopBoard bench = laid(4, 4, true, 6, 1, 0, 0, 2, 6);
        due("wrong(), both arcs of the upper left corner", bench.wrong(), 16);
        due("loops()", bench.loops(), 1);
        due("longest()", bench.longest(), 4);
        LoopBoard last = laid(4, 4, true, 0, 0, 0, 0, 0, 0, 0, 0, 0, 0, 4, 2, 0, 0, 1, 4);
        due("wrong(), both arcs of the lower right corner", last.wrong(), 16);
        due("longest()", last.longest(), 4);
    }

    private static void lengthCountsPiecesNotArcs() {
        due("one arc, two pieces", two(0, 3, 1, 6).longest(), 2);
        due("two arcs", laid(2, 2, true, 1, 1, 1, 1).longest(), 4);
        due("no arc", laid(2, 2, false, 4, 5, 3, 6).longest(), 4);
    }

    private static void aLoopThatCrossesItselfIsOne() {
        LoopBoard bench = laid(3, 3, false, 0, 4, 5, 4, 9, 6, 3, 6, 0);
        due("loops()", bench.loops(), 1);
        due("both of its pieces in a cell count", bench.length(1, 1, 0), 8);
        due("the other one", bench.length(1, 1, 1), 8);
    }

    private static void theLesserTileComesFirstWhereTwoFirstDiffer() {
        int[][] inOrder = {
            {0, 0, 0, 0, 0, 0}, {0, 4, 5, 0, 3, 6}, {4, 2, 5, 3, 2, 6}, {4, 5, 0, 3, 6, 0}
        };
        LoopBoard bench = laid(3, 2, false);
        for (int rank = 0; rank < 4; rank++) {
            bench.find(NONE, rank);
            due("rank " + rank + " of 3 by 2", Arrays.equals(sheetOf(bench, 3, 2), inOrder[rank]), true);
        }
    }

    private static void cellsAreInOrderRowByRowFromAbove() {
        int[][] inOrder = {
            {0, 0, 0, 0, 0, 0}, {0, 0, 4, 5, 3, 6}, {4, 5, 1, 1, 3, 6}, {4, 5, 3, 6, 0, 0}
        };
        LoopBoard bench = laid(2, 3, false);
        for (int rank = 0; rank < 4; rank++) {
            bench.find(NONE, rank);
            due("rank " + rank + " of 2 by 3", Arrays.equals(sheetOf(bench, 2, 3), inOrder[rank]), true);
        }
        LoopBoard square = laid(3, 3, false, 0, 0, 0, 4, 5, 0, 3, 6);
        LoopBoard other = laid(3, 3, false, 0, 4, 5, 0, 3, 6, 0, 0, 0);
        due("the loop in the lower left is ahead", square.rank(false) < other.rank(false), true);
    }

    private static void noTwoRanksAreOneFilling() {
        LoopBoard bench = laid(2, 2, true);
        int[] before = null;
        for (int rank = 0; rank < 152; rank++) {
            due("find(NONE, " + rank + ")", bench.find(NONE, rank), true);
            int[] tiles = sheetOf(bench, 2, 2);
            due("rank " + rank + " is behind the one ahead",
                before == null || Arrays.compare(before, tiles) < 0, true);
            before = tiles;
            if (rank == 80) {
                // An object is good for 512 calls.
                bench = laid(2, 2, true);
            }
        }
    }

    private static void rankIsHowManyAreAhead() {
        LoopBoard bench = laid(3, 3, false, 4, 5, 0, 3, 7, 5, 0, 3, 6);
        due("among all", bench.rank(false), 17);
        due("among those with two loops", bench.rank(true), 1);
        bench.board(3, 3, false);
        due("none is ahead of the first", bench.rank(false), 0);
    }

    private static void theSheetIsEmptyAtFirst() {
        due("tile(0, 0)", new LoopBoard().tile(0, 0), 0);
        due("loops()", new LoopBoard().loops(), 0);
    }

    private static void theSheetIsEmptyForANewBoard() {
        LoopBoard bench = new LoopBoard();
        int[][] sizes = {{5, 4}, {4, 5}, {4, 4}, {4, 4}, {2, 2}, {1, 1}, {5, 4}};
        for (int[] size : sizes) {
            bench.board(size[0], size[1], false);
            for (int cell = 0; cell < size[0] * size[1]; cell++) {
                due("tile of cell " + cell, bench.tile(cell % size[0], cell / size[0]), 0);
                bench.put(cell % size[0], cell / size[0], 9);
            }
        }
    }

    private static void theSheetMayBeNoFilling() {
        LoopBoard bench = laid(2, 2, false, 9, 9, 9, 9);
        due("tile(1, 1)", bench.tile(1, 1), 9);
        due("loops()", bench.loops(), NONE);
        due("count(NONE)", bench.count(NONE), 2);
    }

    private static void anObjectIsGoodFor512Calls() {
        LoopBoard bench = new LoopBoard();
        bench.board(4, 4, true);
        for (int call = 2; call <= 510; call += 2) {
            bench.allow(3, 3, call % 4 == 0 ? 1023 : 0);
            due("count(NONE), call " + call, bench.count(NONE), call % 4 == 0 ? 148110720 : 0);
        }
        due("the 512th call", bench.allow(NONE, 0, 1), true);
    }

    public static void main(String[] args) {
        test("the constant NONE", TermsBoundaryTest::noneIsMinusOne);
        test("1 .. 5 each", TermsBoundaryTest::oneAndFiveAreSizes);
        test("1 .. 5 each: too small", TermsBoundaryTest::lessThanOneIsNoSize);
        test("1 .. 5 each: too large", TermsBoundaryTest::moreThanFiveIsNoSize);
        test("20 at most in all", TermsBoundaryTest::twentyCellsAtMost);
        test("1 by 1 at first", TermsBoundaryTest::oneByOneAtFirst);
        test("x to the right, y down", TermsBoundaryTest::xGoesRightAndYDown);
        test("a tile joins sides", TermsBoundaryTest::eachTileHasItsSides);
        test("none, one or two pieces", TermsBoundaryTest::tilesOfNoneOneAndTwoPieces);
        test("tile 7", TermsBoundaryTest::tileSevenIsUpAndLeftThenDownAndRight);
        test("tile 8", TermsBoundaryTest::tileEightIsUpAndRightThenDownAndLeft);
        test("tile 9", TermsBoundaryTest::tileNineIsUpAndDownThenLeftAndRight);
        test("a filling: one that is allowed there", TermsBoundaryTest::aFillingHasAllowedTilesAlone);
        test("a filling: two side by side", TermsBoundaryTest::neighboursSideBySideAgree);
        test("a filling: one above the other", TermsBoundaryTest::neighboursOneAboveTheOtherAgree);
        test("closed: no piece ends at it", TermsBoundaryTest::noPieceEndsAtAClosedBorder);
        test("arcs: wide and high even", TermsBoundaryTest::arcsNeedEvenSizes);
        test("arcs: a piece ends at both", TermsBoundaryTest::anArcJoinsTwoEnds);
        test("arcs: it may end at none", TermsBoundaryTest::anArcMayHaveNoEnd);
        test("arcs: not at one alone, the first", TermsBoundaryTest::noArcHasItsFirstEndAlone);
        test("arcs: not at one alone, the second", TermsBoundaryTest::noArcHasItsSecondEndAlone);
        test("arcs: 2 k and 2 k + 1", TermsBoundaryTest::arcsJoinNoOtherTwo);
        test("arcs: two at a corner", TermsBoundaryTest::aCornerHasEndsOfTwoArcs);
        test("length: how many pieces", TermsBoundaryTest::lengthCountsPiecesNotArcs);
        test("loops: closed lines", TermsBoundaryTest::aLoopThatCrossesItselfIsOne);
        test("order: the lesser tile first", TermsBoundaryTest::theLesserTileComesFirstWhereTwoFirstDiffer);
        test("order: row by row", TermsBoundaryTest::cellsAreInOrderRowByRowFromAbove);
        test("order: all of them", TermsBoundaryTest::noTwoRanksAreOneFilling);
        test("rank: how many are ahead", TermsBoundaryTest::rankIsHowManyAreAhead);
        test("sheet: 0 at first", TermsBoundaryTest::theSheetIsEmptyAtFirst);
        test("sheet: 0 for a new board", TermsBoundaryTest::theSheetIsEmptyForANewBoard);
        test("sheet: perhaps a filling", TermsBoundaryTest::theSheetMayBeNoFilling);
        test("at most 512 calls", TermsBoundaryTest::anObjectIsGoodFor512Calls);
        System.out.println(tests + " tests, " + failures + " answers not as due");
        if (failures != 0) {
            System.exit(1);
        }
    }
}
