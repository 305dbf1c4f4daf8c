import java.math.BigInteger;

/** Promises 1 to 8 (the board, what is allowed, counting): one test for each sentence that names a boundary. */
public final class CountingBoundaryTest {
    private static final int NONE = LoopBoard.NONE;
    private static final int ALL = 1023;
    private static final int LEAST = Integer.MIN_VALUE;
    private static final int GREATEST = Integer.MAX_VALUE;
    /** Fillings of 4 by 4 with arcs by their loops, listed one by one once. */
    private static final long[] FOUR_WITH_ARCS = {
        1, 19783204, 43813994, 43747228, 26277119, 10644136, 3077708, 652728, 102079, 11572, 906, 44, 1
    };
    private static final int[][] NO_CELLS_OF_3_BY_2 = {
        {3, 0}, {0, 2}, {3, 2}, {2, 2}, {3, 1}, {0, -1}, {2, -1}, {-2, 0}, {-2, -2}, {6, 0}, {0, 6}, {0, LEAST},
        {0, GREATEST}, {LEAST, 0}, {GREATEST, 0}, {LEAST, LEAST}, {GREATEST, GREATEST}
    };

    private static int failures = 0;
    private static int tests = 0;
    private static String sentence = "";

    private static void test(String name, Runnable body) {
        sentence = name;
        tests++;
        try {
            body.run();
        } catch (RuntimeException thrown) {
            failures++;
            System.out.println(sentence + ": threw " + thrown);
        }
    }

    private static void due(String what, long got, long want) {
        if (got != want) {
            failures++;
            System.out.println(sentence + ": " + what + " answered " + got + ", due is " + want);
        }
    }

    private static void due(String what, boolean got, boolean want) {
        due(what, got ? 1 : 0, want ? 1 : 0);
    }

    private static LoopBoard fresh(int wide, int high, boolean arcs) {
        LoopBoard bench = new LoopBoard();
        due("board", bench.board(wide, high, arcs), true);
        return bench;
    }

    /** A board of 3 by 2 on which each cell has a tile and a mask of its own. */
    private static LoopBoard marked() {
        LoopBoard bench = fresh(3, 2, false);
        for (int cell = 0; cell < 6; cell++) {
            bench.allow(cell % 3, cell / 3, 100 + cell);
            bench.put(cell % 3, cell / 3, cell + 1);
        }
        return bench;
    }

    private static void dueMarked(LoopBoard bench) {
        for (int cell = 0; cell < 6; cell++) {
            due("allowed in cell " + cell, bench.allowed(cell % 3, cell / 3), 100 + cell);
            due("tile of cell " + cell, bench.tile(cell % 3, cell / 3), cell + 1);
        }
        due("allowed beside the last", bench.allowed(3, 1), NONE);
        due("allowed below the last", bench.allowed(2, 2), NONE);
    }

    // ---- 1, a new object

    private static void newIsOneByOne() {
        LoopBoard bench = new LoopBoard();
        due("allowed(0, 0)", bench.allowed(0, 0), ALL);
        due("allowed(1, 0)", bench.allowed(1, 0), NONE);
        due("allowed(0, 1)", bench.allowed(0, 1), NONE);
        due("wrong()", bench.wrong(), 1);
    }

    private static void newIsClosed() {
        LoopBoard bench = new LoopBoard();
        for (int tile = 0; tile < 10; tile++) {
            due("having(0, 0, " + tile + ")", bench.having(0, 0, tile), tile == 0 ? 1 : 0);
            bench.put(0, 0, tile);
            due("wrong() with tile " + tile, bench.wrong(), tile == 0 ? 1 : 0);
        }
    }

    private static void newAllowsAllTiles() {
        due("allowed(0, 0)", new LoopBoard().allowed(0, 0), ALL);
        due("count(NONE)", new LoopBoard().count(NONE), 1);
    }

    private static void objectsShareNothing() {
        LoopBoard one = new LoopBoard();
        LoopBoard two = new LoopBoard();
        one.board(4, 4, true);
        one.allow(NONE, 0, 0);
        one.put(0, 0, 9);
        due("tile(0, 0) of the other", two.tile(0, 0), 0);
        due("allowed(0, 0) of the other", two.allowed(0, 0), ALL);
        due("wrong() of the other", two.wrong(), 1);
        due("count(NONE) of the other", two.count(NONE), 1);
        due("count(NONE) of the one", one.count(NONE), 0);
    }

    // ---- 2, board

    private static void boardIsTrueForEachThatCanBe() {
        LoopBoard bench = new LoopBoard();
        for (int wide = 1; wide <= 5; wide++) {
            for (int high = 1; high <= 5 && wide * high <= 20; high++) {
                due("board(" + wide + ", " + high + ", false)", bench.board(wide, high, false), true);
                due("wrong()", bench.wrong(), wide * high);
            }
        }
    }

    private static void boardIsFalseWhenTooSmall() {
        LoopBoard bench = marked();
        for (int size : new int[] {0, -1, -2, LEAST}) {
            due("board(" + size + ", 2, false)", bench.board(size, 2, false), false);
            due("board(2, " + size + ", false)", bench.board(2, size, false), false);
            due("board(" + size + ", 2, true)", bench.board(size, 2, true), false);
            due("board(2, " + size + ", true)", bench.board(2, size, true), false);
        }
        dueMarked(bench);
    }

    private static void boardIsFalseWhenTooLarge() {
        LoopBoard bench = marked();
        for (int size : new int[] {6, 8, 20, 65536, 1 << 30, GREATEST}) {
            due("board(" + size + ", 2, false)", bench.board(size, 2, false), false);
            due("board(2, " + size + ", false)", bench.board(2, size, false), false);
            due("board(" + size + ", " + size + ", true)", bench.board(size, size, true), false);
        }
        dueMarked(bench);
    }

    private static void boardIsFalseWithMoreThanTwentyCells() {
        LoopBoard bench = marked();
        due("board(5, 5, false)", bench.board(5, 5, false), false);
        due("board(5, 5, true)", bench.board(5, 5, true), false);
        dueMarked(bench);
    }

    private static void boardIsFalseForArcsOnOddSizes() {
        LoopBoard bench = marked();
        int[][] odd = {{1, 1}, {1, 2}, {2, 1}, {3, 2}, {2, 3}, {3, 4}, {4, 3}, {4, 5}, {5, 4}, {3, 3}};
        for (int[] size : odd) {
            due("board(" + size[0] + ", " + size[1] + ", true)", bench.board(size[0], size[1], true), false);
        }
        dueMarked(bench);
    }

    private static void aRefusedBoardLeavesTheCounts() {
        LoopBoard bench = fresh(3, 3, false);
        bench.allow(1, 1, 255);
        due("count(NONE)", bench.count(NONE), 16);
        bench.board(5, 5, false);
        bench.board(3, 3, true);
        due("count(NONE) after refusals", bench.count(NONE), 16);
        due("find(NONE, 15) after refusals", bench.find(NONE, 15), true);
        due("rank(false) after refusals", bench.rank(false), 15);
    }

    private static void aNewBoardAllowsAllTiles() {
        LoopBoard bench = new LoopBoard();
        for (int turn = 0; turn < 3; turn++) {
            bench.board(3, 2, false);
            for (int cell = 0; cell < 6; cell++) {
                due("allowed in cell " + cell, bench.allowed(cell % 3, cell / 3), ALL);
            }
            due("count(NONE)", bench.count(NONE), 4);
            bench.allow(NONE, 0, 0);
            due("count(NONE) with none allowed", bench.count(NONE), 0);
        }
    }

    private static void aNewBoardOfTheSameSizeHasItsOwnBorder() {
        LoopBoard bench = new LoopBoard();
        for (int turn = 0; turn < 3; turn++) {
            bench.board(2, 2, true);
            bench.put(0, 0, 3);
            bench.put(1, 0, 6);
            due("count(NONE) with arcs", bench.count(NONE), 152);
            due("wrong() with arcs", bench.wrong(), 4);
            bench.board(2, 2, false);
            bench.put(0, 0, 3);
            bench.put(1, 0, 6);
            due("count(NONE) when closed", bench.count(NONE), 2);
            due("wrong() when closed", bench.wrong(), 0);
        }
    }

    /** Each is counted next to one that differs from it in width alone, in height alone or in its border. */
    private static void aNewBoardIsCountedAnew() {
        int[][] sizes = {{2, 2}, {3, 2}, {3, 3}, {2, 3}, {2, 2}, {1, 2}, {4, 2}, {4, 4}, {1, 4}, {1, 1}, {3, 3}};
        long[] fillings = {2, 4, 20, 4, 2, 1, 8, 1504, 1, 1, 20};
        LoopBoard bench = new LoopBoard();
        for (int turn = 0; turn < sizes.length; turn++) {
            bench.board(sizes[turn][0], sizes[turn][1], false);
            String size = sizes[turn][0] + " by " + sizes[turn][1];
            due("count(NONE) of " + size, bench.count(NONE), fillings[turn]);
            due("find(NONE, last) of " + size, bench.find(NONE, fillings[turn] - 1), true);
            due("wrong() of " + size, bench.wrong(), sizes[turn][0] * sizes[turn][1]);
            due("rank(false) of " + size, bench.rank(false), fillings[turn] - 1);
        }
    }

    // ---- 3, allow

    private static void allowIsForOneCellAlone() {
        LoopBoard bench = fresh(3, 2, false);
        for (int cell = 0; cell < 6; cell++) {
            due("allow in cell " + cell, bench.allow(cell % 3, cell / 3, 7), true);
            for (int other = 0; other < 6; other++) {
                due("allowed in cell " + other, bench.allowed(other % 3, other / 3), other == cell ? 7 : ALL);
            }
            bench.allow(cell % 3, cell / 3, ALL);
        }
    }

    private static void allowForgetsWhatWasAllowed() {
        LoopBoard bench = new LoopBoard();
        bench.allow(0, 0, 6);
        bench.allow(0, 0, 9);
        due("allowed(0, 0)", bench.allowed(0, 0), 9);
    }

    private static void allowInAllCellsWithXNone() {
        LoopBoard bench = marked();
        due("allow(NONE, 0, 5)", bench.allow(NONE, 0, 5), true);
        for (int cell = 0; cell < 6; cell++) {
            due("allowed in cell " + cell, bench.allowed(cell % 3, cell / 3), 5);
            due("tile of cell " + cell, bench.tile(cell % 3, cell / 3), cell + 1);
        }
    }

    private static void allowInAllCellsDoesNotLookAtY() {
        LoopBoard bench = fresh(3, 2, false);
        int bits = 1;
        for (int y : new int[] {0, 1, 2, 5, 9, NONE, -2, LEAST, GREATEST}) {
            due("allow(NONE, " + y + ", " + bits + ")", bench.allow(NONE, y, bits), true);
            due("allowed(0, 0)", bench.allowed(0, 0), bits);
            due("allowed(2, 1)", bench.allowed(2, 1), bits);
            bits++;
        }
    }

    private static void allowEachOfBitsZeroToNine() {
        LoopBoard bench = new LoopBoard();
        for (int tile = 0; tile < 10; tile++) {
            due("allow(0, 0, " + (1 << tile) + ")", bench.allow(0, 0, 1 << tile), true);
            due("allowed(0, 0)", bench.allowed(0, 0), 1 << tile);
        }
    }

    private static void allowDoesNotLookAtOtherBits() {
        LoopBoard bench = fresh(2, 2, false);
        for (int bit = 10; bit < 32; bit++) {
            due("allow with bit " + bit, bench.allow(1, 1, 1 << bit | 64), true);
            due("allowed(1, 1), bit " + bit, bench.allowed(1, 1), 64);
            due("count(NONE), bit " + bit, bench.count(NONE), 1);
            due("allow with bit " + bit + " alone", bench.allow(NONE, 0, 1 << bit), true);
            due("allowed(1, 1), bit " + bit + " alone", bench.allowed(1, 1), 0);
            bench.allow(NONE, 0, -1);
            due("allowed(1, 1), all bits", bench.allowed(1, 1), ALL);
        }
    }

    private static void allowNoTileAtAll() {
        LoopBoard bench = fresh(2, 2, false);
        due("allow(1, 0, 0)", bench.allow(1, 0, 0), true);
        due("allowed(1, 0)", bench.allowed(1, 0), 0);
        due("count(NONE)", bench.count(NONE), 0);
        due("wrong()", bench.wrong(), 1);
    }

    private static void allowIsFalseWithoutSuchACell() {
        LoopBoard bench = marked();
        for (int[] at : NO_CELLS_OF_3_BY_2) {
            due("allow(" + at[0] + ", " + at[1] + ", 1)", bench.allow(at[0], at[1], 1), false);
        }
        dueMarked(bench);
    }

    private static void allowCountsAnewWhateverCellIsChanged() {
        for (int cell = 0; cell < 9; cell++) {
            LoopBoard bench = fresh(3, 3, false);
            due("count(NONE) ahead", bench.count(NONE), 20);
            bench.allow(cell % 3, cell / 3, 1);
            long empty = bench.count(NONE);
            due("having no piece in cell " + cell, bench.having(cell % 3, cell / 3, 0), empty);
            bench.allow(cell % 3, cell / 3, ALL - 1);
            due("count(NONE) of the others", bench.count(NONE), 20 - empty);
            bench.allow(cell % 3, cell / 3, ALL);
            due("count(NONE) at last", bench.count(NONE), 20);
        }
    }

    // ---- 4, allowed

    private static void allowedIsZeroWhenNoTileIs() {
        LoopBoard bench = fresh(5, 4, false);
        bench.allow(NONE, 0, 0);
        due("allowed(0, 0)", bench.allowed(0, 0), 0);
        due("allowed(4, 3)", bench.allowed(4, 3), 0);
    }

    private static void allowedIsNoneWithoutSuchACell() {
        LoopBoard bench = fresh(3, 2, false);
        for (int[] at : NO_CELLS_OF_3_BY_2) {
            due("allowed(" + at[0] + ", " + at[1] + ")", bench.allowed(at[0], at[1]), NONE);
        }
        due("allowed(NONE, 0), which is not all", bench.allowed(NONE, 0), NONE);
    }

    // ---- 5, count

    private static void countOfNoLoopsIsTheEmptyFilling() {
        LoopBoard bench = fresh(5, 4, false);
        due("count(0)", bench.count(0), 1);
        bench.allow(2, 2, ALL - 1);
        due("count(0) when a cell must not be empty", bench.count(0), 0);
    }

    private static void countOfAnyNumberWithNone() {
        LoopBoard bench = fresh(4, 4, true);
        due("count(NONE)", bench.count(NONE), 148110720);
        due("count(NONE) of 1 by 1", new LoopBoard().count(NONE), 1);
    }

    private static void countOfJustSoMany() {
        LoopBoard bench = fresh(4, 4, true);
        for (int loops = 0; loops < FOUR_WITH_ARCS.length; loops++) {
            due("count(" + loops + ")", bench.count(loops), FOUR_WITH_ARCS[loops]);
        }
    }

    private static void countOfMoreThanThereCanBe() {
        LoopBoard bench = fresh(4, 4, true);
        for (int loops : new int[] {13, 14, 20, 21, 40, 64, 1000, 1 << 20, 1 << 30, GREATEST}) {
            due("count(" + loops + ")", bench.count(loops), 0);
        }
        bench.board(4, 5, false);
        due("count(6) of 4 by 5", bench.count(6) > 0, true);
        due("count(7) of 4 by 5", bench.count(7), 0);
        LoopBoard small = fresh(3, 3, false);
        for (int loops = 3; loops < 500; loops++) {
            due("count(" + loops + ") of 3 by 3", small.count(loops), 0);
        }
    }

    private static void countOfLessThanNone() {
        LoopBoard bench = fresh(4, 4, true);
        for (int loops : new int[] {-2, -3, -13, -1000, LEAST, LEAST + 1}) {
            due("count(" + loops + ")", bench.count(loops), 0);
        }
    }

    private static void countWithoutAFilling() {
        LoopBoard bench = fresh(4, 4, false);
        bench.allow(0, 0, 1 << 9);
        for (int loops = NONE; loops < 13; loops++) {
            due("count(" + loops + ")", bench.count(loops), 0);
        }
    }

    private static void countingChangesNothing() {
        LoopBoard bench = marked();
        bench.count(NONE);
        bench.weigh(3);
        bench.loopsOf(1);
        bench.having(1, 1, 3);
        dueMarked(bench);
    }

    // ---- 6, weigh

    private static void weighByZeroIsTheEmptyFillingAlone() {
        LoopBoard bench = fresh(4, 4, true);
        due("weigh(0)", bench.weigh(0), 1);
        bench.allow(0, 0, ALL - 1);
        due("weigh(0) without the empty filling", bench.weigh(0), 0);
    }

    private static void weighByOneCounts() {
        due("weigh(1)", fresh(4, 4, true).weigh(1), 148110720);
    }

    private static void weighByLessThanZero() {
        due("weigh(-1)", fresh(3, 3, false).weigh(-1), 1 - 17 + 2);
        due("weigh(-10)", fresh(3, 3, false).weigh(-10), 1 - 170 + 200);
    }

    private static void weighWithoutAFilling() {
        LoopBoard bench = fresh(4, 4, true);
        bench.allow(3, 3, 0);
        for (int n : new int[] {0, 1, -1, 7, LEAST, GREATEST}) {
            due("weigh(" + n + ")", bench.weigh(n), 0);
        }
    }

    private static void weighWrapsAt64Bits() {
        LoopBoard bench = fresh(4, 4, true);
        for (int n : new int[] {7, 40, 41, -41, 1000, -1000, 65536, 1 << 30, GREATEST, LEAST, LEAST + 1, -GREATEST}) {
            BigInteger sum = BigInteger.ZERO;
            for (int loops = 0; loops < FOUR_WITH_ARCS.length; loops++) {
                BigInteger power = BigInteger.valueOf(n).pow(loops);
                sum = sum.add(power.multiply(BigInteger.valueOf(FOUR_WITH_ARCS[loops])));
            }
            due("weigh(" + n + ")", bench.weigh(n), sum.longValue());
        }
    }

    // ---- 7, loopsOf

    private static void leastLoops() {
        LoopBoard bench = fresh(2, 2, true);
        due("loopsOf(0)", bench.loopsOf(0), 0);
        bench.allow(NONE, 0, 1 << 9);
        due("loopsOf(0) of crossings alone", bench.loopsOf(0), 2);
    }

    private static void greatestLoops() {
        LoopBoard bench = fresh(4, 4, true);
        due("loopsOf(1)", bench.loopsOf(1), 12);
        bench.allow(NONE, 0, 1);
        due("loopsOf(1) of the empty filling alone", bench.loopsOf(1), 0);
        due("loopsOf(1) of 1 by 1", new LoopBoard().loopsOf(1), 0);
    }

    private static void noLoopsWithoutAFilling() {
        LoopBoard bench = fresh(2, 2, false);
        bench.allow(0, 0, 1 << 4);
        bench.allow(1, 1, 1);
        due("loopsOf(0)", bench.loopsOf(0), NONE);
        due("loopsOf(1)", bench.loopsOf(1), NONE);
    }

    private static void noLoopsForOthers() {
        LoopBoard bench = fresh(2, 2, true);
        for (int what : new int[] {-1, -2, 2, 3, 256, 257, LEAST, LEAST + 1, GREATEST}) {
            due("loopsOf(" + what + ")", bench.loopsOf(what), NONE);
        }
    }

    // ---- 8, having

    private static void havingEachTileOfACell() {
        LoopBoard bench = fresh(2, 2, true);
        for (int cell = 0; cell < 4; cell++) {
            long sum = 0;
            for (int tile = 0; tile < 10; tile++) {
                sum += bench.having(cell % 2, cell / 2, tile);
            }
            due("in all, cell " + cell, sum, 152);
        }
    }

    private static void havingATileThatIsNotAllowed() {
        LoopBoard bench = fresh(3, 3, false);
        due("having(1, 1, 9)", bench.having(1, 1, 9), 2);
        bench.allow(1, 1, 511);
        due("having(1, 1, 9) when it is not", bench.having(1, 1, 9), 0);
    }

    private static void havingATileThatNoFillingHas() {
        LoopBoard bench = fresh(3, 3, false);
        due("having(0, 0, 9)", bench.having(0, 0, 9), 0);
        due("having(2, 2, 4)", bench.having(2, 2, 4), 0);
    }

    private static void havingWithoutAFilling() {
        LoopBoard bench = fresh(3, 3, false);
        bench.allow(2, 2, 0);
        for (int tile = 0; tile < 10; tile++) {
            due("having(0, 0, " + tile + ")", bench.having(0, 0, tile), 0);
            due("having(2, 2, " + tile + ")", bench.having(2, 2, tile), 0);
        }
    }

    private static void havingIsNoneWithoutSuchACell() {
        LoopBoard bench = fresh(3, 2, false);
        for (int[] at : NO_CELLS_OF_3_BY_2) {
            due("having(" + at[0] + ", " + at[1] + ", 0)", bench.having(at[0], at[1], 0), NONE);
        }
        due("having(NONE, 0, 0), which is not all", bench.having(NONE, 0, 0), NONE);
    }

    private static void havingIsNoneWithoutSuchATile() {
        LoopBoard bench = fresh(3, 2, false);
        for (int tile : new int[] {-1, -2, 10, 11, 16, 32, LEAST, GREATEST}) {
            due("having(0, 0, " + tile + ")", bench.having(0, 0, tile), NONE);
        }
    }

    private static void testBoards() {
        test("1: 1 by 1", CountingBoundaryTest::newIsOneByOne);
        test("1: closed", CountingBoundaryTest::newIsClosed);
        test("1: all tiles allowed", CountingBoundaryTest::newAllowsAllTiles);
        test("1: a new object", CountingBoundaryTest::objectsShareNothing);
        test("2: true", CountingBoundaryTest::boardIsTrueForEachThatCanBe);
        test("2: false, too small", CountingBoundaryTest::boardIsFalseWhenTooSmall);
        test("2: false, too large", CountingBoundaryTest::boardIsFalseWhenTooLarge);
        test("2: false, too many cells", CountingBoundaryTest::boardIsFalseWithMoreThanTwentyCells);
        test("2: false, arcs and odd", CountingBoundaryTest::boardIsFalseForArcsOnOddSizes);
        test("2: false, counts stay", CountingBoundaryTest::aRefusedBoardLeavesTheCounts);
        test("2: all tiles allowed", CountingBoundaryTest::aNewBoardAllowsAllTiles);
        test("2: with arcs or closed", CountingBoundaryTest::aNewBoardOfTheSameSizeHasItsOwnBorder);
        test("2: a new one", CountingBoundaryTest::aNewBoardIsCountedAnew);
        test("3: in a cell", CountingBoundaryTest::allowIsForOneCellAlone);
        test("3: those tiles", CountingBoundaryTest::allowForgetsWhatWasAllowed);
        test("3: x NONE, in all", CountingBoundaryTest::allowInAllCellsWithXNone);
        test("3: y is not looked at", CountingBoundaryTest::allowInAllCellsDoesNotLookAtY);
        test("3: bits 0 to 9", CountingBoundaryTest::allowEachOfBitsZeroToNine);
        test("3: others are not looked at", CountingBoundaryTest::allowDoesNotLookAtOtherBits);
        test("3: none allowed", CountingBoundaryTest::allowNoTileAtAll);
        test("3: false, none such", CountingBoundaryTest::allowIsFalseWithoutSuchACell);
        test("3: counts follow", CountingBoundaryTest::allowCountsAnewWhateverCellIsChanged);
        test("4: none allowed", CountingBoundaryTest::allowedIsZeroWhenNoTileIs);
        test("4: NONE, none such", CountingBoundaryTest::allowedIsNoneWithoutSuchACell);
    }

    private static void testCounting() {
        test("5: no loops", CountingBoundaryTest::countOfNoLoopsIsTheEmptyFilling);
        test("5: NONE, any number", CountingBoundaryTest::countOfAnyNumberWithNone);
        test("5: just so many", CountingBoundaryTest::countOfJustSoMany);
        test("5: too many", CountingBoundaryTest::countOfMoreThanThereCanBe);
        test("5: less than NONE", CountingBoundaryTest::countOfLessThanNone);
        test("5: no filling", CountingBoundaryTest::countWithoutAFilling);
        test("5: changes nothing", CountingBoundaryTest::countingChangesNothing);
        test("6: n is 0", CountingBoundaryTest::weighByZeroIsTheEmptyFillingAlone);
        test("6: n is 1", CountingBoundaryTest::weighByOneCounts);
        test("6: n below 0", CountingBoundaryTest::weighByLessThanZero);
        test("6: no filling", CountingBoundaryTest::weighWithoutAFilling);
        test("6: it wraps", CountingBoundaryTest::weighWrapsAt64Bits);
        test("7: the least", CountingBoundaryTest::leastLoops);
        test("7: the greatest", CountingBoundaryTest::greatestLoops);
        test("7: NONE, no filling", CountingBoundaryTest::noLoopsWithoutAFilling);
        test("7: NONE, for others", CountingBoundaryTest::noLoopsForOthers);
        test("8: how many", CountingBoundaryTest::havingEachTileOfACell);
        test("8: not allowed", CountingBoundaryTest::havingATileThatIsNotAllowed);
        test("8: in no filling", CountingBoundaryTest::havingATileThatNoFillingHas);
        test("8: no filling", CountingBoundaryTest::havingWithoutAFilling);
        test("8: NONE, no such cell", CountingBoundaryTest::havingIsNoneWithoutSuchACell);
        test("8: NONE, no such tile", CountingBoundaryTest::havingIsNoneWithoutSuchATile);
    }

    public static void main(String[] args) {
        testBoards();
        testCounting();
        System.out.println(tests + " tests, " + failures + " answers not as due");
        if (failures != 0) {
            System.exit(1);
        }
    }
}
