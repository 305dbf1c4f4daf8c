/** For each promise of the document: ordinary inputs, the edges that it names, and wrong inputs. */
public final class PromisesTest {
    private static final int NONE = LoopBoard.NONE;
    private static final int ALL = 1023;
    private static int failures = 0;

    private static void due(int promise, String what, long got, long want) {
        if (got != want) {
            failures++;
            System.out.println("promise " + promise + ": " + what + " answered " + got + ", due is " + want);
        }
    }

    private static void due(int promise, String what, boolean got, boolean want) {
        due(promise, what, got ? 1 : 0, want ? 1 : 0);
    }

    private static LoopBoard closed(int wide, int high) {
        LoopBoard bench = new LoopBoard();
        bench.board(wide, high, false);
        return bench;
    }

    private static LoopBoard withArcs(int wide, int high) {
        LoopBoard bench = new LoopBoard();
        bench.board(wide, high, true);
        return bench;
    }

    private static void lay(LoopBoard bench, int wide, int... tiles) {
        for (int cell = 0; cell < tiles.length; cell++) {
            bench.put(cell % wide, cell / wide, tiles[cell]);
        }
    }

    private static void newObject() {
        due(0, "NONE", LoopBoard.NONE, -1);
        LoopBoard bench = new LoopBoard();
        due(1, "allowed(0, 0)", bench.allowed(0, 0), ALL);
        due(1, "allowed(1, 0)", bench.allowed(1, 0), NONE);
        due(1, "allowed(0, 1)", bench.allowed(0, 1), NONE);
        due(1, "tile(0, 0)", bench.tile(0, 0), 0);
        due(1, "wrong()", bench.wrong(), 1);
        due(1, "count(NONE)", bench.count(NONE), 1);
        for (int tile = 1; tile < 10; tile++) {
            bench.put(0, 0, tile);
            due(1, "wrong() with tile " + tile, bench.wrong(), 0);
        }
        due(1, "tile(0, 0) of another object", new LoopBoard().tile(0, 0), 0);
    }

    private static void board() {
        LoopBoard bench = new LoopBoard();
        for (int wide = -1; wide <= 7; wide++) {
            for (int high = -1; high <= 7; high++) {
                boolean can = wide >= 1 && wide <= 5 && high >= 1 && high <= 5 && wide * high <= 20;
                boolean even = wide % 2 == 0 && high % 2 == 0;
                due(2, "board(" + wide + ", " + high + ", false)", bench.board(wide, high, false), can);
                due(2, "board(" + wide + ", " + high + ", true)", bench.board(wide, high, true), can && even);
            }
        }
        due(2, "board(65536, 65536, false)", bench.board(65536, 65536, false), false);
        due(2, "board(least, 2, true)", bench.board(Integer.MIN_VALUE, 2, true), false);
        due(2, "board(2, greatest, false)", bench.board(2, Integer.MAX_VALUE, false), false);
        refusedBoardChangesNothing();
        newBoardForgets();
    }

    private static void refusedBoardChangesNothing() {
        LoopBoard bench = closed(2, 3);
        bench.allow(1, 2, 17);
        bench.put(1, 0, 5);
        long before = bench.count(NONE);
        bench.board(3, 2, true);
        bench.board(0, 0, false);
        bench.board(5, 5, false);
        due(2, "allowed(1, 2) after refusals", bench.allowed(1, 2), 17);
        due(2, "tile(1, 0) after refusals", bench.tile(1, 0), 5);
        due(2, "count(NONE) after refusals", bench.count(NONE), before);
        due(2, "tile(2, 0) after refusals", bench.tile(2, 0), NONE);
    }

    private static void newBoardForgets() {
        LoopBoard bench = withArcs(2, 2);
        bench.allow(NONE, 0, 0);
        lay(bench, 2, 9, 9, 9, 9);
        due(2, "board(2, 2, true) anew", bench.board(2, 2, true), true);
        due(2, "allowed(1, 1) of the new board", bench.allowed(1, 1), ALL);
        due(2, "tile(1, 1) of the new board", bench.tile(1, 1), 0);
        due(2, "count(NONE) of the new board", bench.count(NONE), 152);
        bench.board(2, 2, false);
        due(2, "count(NONE) when closed", bench.count(NONE), 2);
        bench.board(2, 2, true);
        due(2, "count(NONE) with arcs again", bench.count(NONE), 152);
        bench.board(3, 1, false);
        due(2, "tile(2, 0) of 3 by 1", bench.tile(2, 0), 0);
        due(2, "tile(0, 1) of 3 by 1", bench.tile(0, 1), NONE);
        due(2, "wrong() of 3 by 1", bench.wrong(), 3);
    }

    private static void allow() {
        LoopBoard bench = closed(3, 2);
        due(3, "allow(2, 1, 5)", bench.allow(2, 1, 5), true);
        due(3, "allowed(2, 1)", bench.allowed(2, 1), 5);
        due(3, "allowed(1, 1)", bench.allowed(1, 1), ALL);
        due(3, "allowed(1, 0)", bench.allowed(1, 0), ALL);
        due(3, "allow(0, 0, 1024)", bench.allow(0, 0, 1024), true);
        due(3, "allowed(0, 0)", bench.allowed(0, 0), 0);
        due(3, "allow(0, 0, -1)", bench.allow(0, 0, -1), true);
        due(3, "allowed(0, 0) again", bench.allowed(0, 0), ALL);
        due(3, "allow(3, 0, 1)", bench.allow(3, 0, 1), false);
        due(3, "allow(0, 2, 1)", bench.allow(0, 2, 1), false);
        due(3, "allow(0, -1, 1)", bench.allow(0, NONE, 1), false);
        due(3, "allow(-2, 0, 1)", bench.allow(-2, 0, 1), false);
        due(3, "allowed(0, 0) after refusals", bench.allowed(0, 0), ALL);
        due(3, "allow(NONE, greatest, 3 + 4096)", bench.allow(NONE, Integer.MAX_VALUE, 3 + 4096), true);
        for (int cell = 0; cell < 6; cell++) {
            due(3, "allowed in cell " + cell, bench.allowed(cell % 3, cell / 3), 3);
        }
        allowChangesCounts();
    }

    private static void allowChangesCounts() {
        LoopBoard bench = closed(2, 2);
        due(3, "count(NONE)", bench.count(NONE), 2);
        bench.allow(1, 1, ALL - 1);
        due(3, "count(NONE), not none at last", bench.count(NONE), 1);
        bench.allow(0, 0, 1);
        due(3, "count(NONE), none at first", bench.count(NONE), 0);
        bench.allow(1, 1, 1);
        due(3, "count(NONE), none at both", bench.count(NONE), 1);
        bench.allow(NONE, 0, ALL);
        due(3, "count(NONE), all again", bench.count(NONE), 2);
        lay(bench, 2, 4, 5, 3, 6);
        bench.allow(0, 1, ALL & ~(1 << 3));
        due(3, "tile(0, 1) when it is allowed no more", bench.tile(0, 1), 3);
        due(3, "wrong()", bench.wrong(), 2);
    }

    private static void allowed() {
        LoopBoard bench = closed(5, 4);
        due(4, "allowed(4, 3)", bench.allowed(4, 3), ALL);
        bench.allow(4, 3, 512);
        due(4, "allowed(4, 3)", bench.allowed(4, 3), 512);
        due(4, "allowed(5, 3)", bench.allowed(5, 3), NONE);
        due(4, "allowed(4, 4)", bench.allowed(4, 4), NONE);
        due(4, "allowed(NONE, 0)", bench.allowed(NONE, 0), NONE);
        due(4, "allowed(0, NONE)", bench.allowed(0, NONE), NONE);
        due(4, "allowed(greatest, least)", bench.allowed(Integer.MAX_VALUE, Integer.MIN_VALUE), NONE);
    }

    private static void count() {
        long[] four = {1, 793, 561, 134, 14, 1, 0};
        LoopBoard bench = closed(4, 4);
        for (int loops = 0; loops < four.length; loops++) {
            due(5, "count(" + loops + ") of 4 by 4", bench.count(loops), four[loops]);
        }
        due(5, "count(NONE)", bench.count(NONE), 1504);
        due(5, "count(-2)", bench.count(-2), 0);
        due(5, "count(greatest)", bench.count(Integer.MAX_VALUE), 0);
        due(5, "count(least)", bench.count(Integer.MIN_VALUE), 0);
        // Every filling of 4 by 4 with arcs was listed once, one by one, for these.
        long[] arcs = {1, 19783204, 43813994, 43747228, 26277119, 10644136, 3077708, 652728, 102079, 11572, 906,
            44, 1, 0};
        bench.board(4, 4, true);
        for (int loops = 0; loops < arcs.length; loops++) {
            due(5, "count(" + loops + ") of 4 by 4 with arcs", bench.count(loops), arcs[loops]);
        }
        due(5, "count(NONE) with arcs", bench.count(NONE), 148110720);
        for (int loops = 13; loops < 30000; loops += loops < 300 ? 1 : 997) {
            due(5, "count(" + loops + ") with arcs", bench.count(loops), 0);
        }
    }

    private static void weigh() {
        LoopBoard bench = closed(3, 3);
        due(6, "weigh(10)", bench.weigh(10), 1 + 170 + 200);
        due(6, "weigh(0)", bench.weigh(0), 1);
        due(6, "weigh(1)", bench.weigh(1), 20);
        due(6, "weigh(-1)", bench.weigh(-1), -14);
        bench.board(4, 4, true);
        due(6, "weigh(least)", bench.weigh(Integer.MIN_VALUE), 1 + 19783204L * Integer.MIN_VALUE
            + 43813994L * Integer.MIN_VALUE * Integer.MIN_VALUE);
        for (int n = -3; n <= 3; n++) {
            long sum = 0;
            long power = 1;
            for (int loops = 0; loops <= 12; loops++) {
                sum += power * bench.count(loops);
                power *= n;
            }
            due(6, "weigh(" + n + ") of 4 by 4 with arcs", bench.weigh(n), sum);
        }
        bench.allow(NONE, 0, 0);
        due(6, "weigh(5) without a filling", bench.weigh(5), 0);
    }

    private static void loopsOf() {
        LoopBoard bench = withArcs(4, 4);
        due(7, "loopsOf(0)", bench.loopsOf(0), 0);
        due(7, "loopsOf(1)", bench.loopsOf(1), 12);
        due(7, "loopsOf(2)", bench.loopsOf(2), NONE);
        due(7, "loopsOf(-1)", bench.loopsOf(-1), NONE);
        bench.allow(2, 2, 1 << 9);
        due(7, "loopsOf(0) with a crossing", bench.loopsOf(0), 1);
        bench.allow(2, 2, 0);
        due(7, "loopsOf(0) without a filling", bench.loopsOf(0), NONE);
        due(7, "loopsOf(1) without a filling", bench.loopsOf(1), NONE);
        bench.board(4, 5, false);
        due(7, "loopsOf(1) of 4 by 5", bench.loopsOf(1), 6);
    }

    private static void having() {
        LoopBoard bench = closed(3, 3);
        long sum = 0;
        for (int tile = 0; tile < 10; tile++) {
            sum += bench.having(1, 1, tile);
        }
        due(8, "having(1, 1, ..) in all", sum, 20);
        due(8, "having(1, 1, 8)", bench.having(1, 1, 8), 2);
        due(8, "having(2, 2, 6)", bench.having(2, 2, 6), 10);
        due(8, "having(2, 2, 4)", bench.having(2, 2, 4), 0);
        bench.allow(0, 0, 1);
        due(8, "having(2, 2, 6) with an empty corner", bench.having(2, 2, 6), 4);
        bench.allow(2, 2, ALL & ~(1 << 6));
        due(8, "having(2, 2, 6) when it is not allowed", bench.having(2, 2, 6), 0);
        due(8, "having(3, 0, 0)", bench.having(3, 0, 0), NONE);
        due(8, "having(0, 3, 0)", bench.having(0, 3, 0), NONE);
        due(8, "having(-1, 0, 0)", bench.having(NONE, 0, 0), NONE);
        due(8, "having(0, -1, 0)", bench.having(0, NONE, 0), NONE);
        due(8, "having(0, 0, 10)", bench.having(0, 0, 10), NONE);
        due(8, "having(0, 0, -1)", bench.having(0, 0, NONE), NONE);
        due(8, "having(0, 0, least)", bench.having(0, 0, Integer.MIN_VALUE), NONE);
    }

    private static void put() {
        LoopBoard bench = closed(2, 3);
        due(9, "put(1, 2, 9)", bench.put(1, 2, 9), 0);
        due(9, "put(1, 2, 6)", bench.put(1, 2, 6), 9);
        due(9, "put(2, 1, 6)", bench.put(2, 1, 6), NONE);
        due(9, "put(1, 3, 6)", bench.put(1, 3, 6), NONE);
        due(9, "put(-1, 0, 6)", bench.put(NONE, 0, 6), NONE);
        due(9, "put(0, -1, 6)", bench.put(0, NONE, 6), NONE);
        due(9, "put(1, 2, 10)", bench.put(1, 2, 10), NONE);
        due(9, "put(1, 2, -1)", bench.put(1, 2, NONE), NONE);
        due(9, "tile(1, 2)", bench.tile(1, 2), 6);
        due(9, "tile(0, 2)", bench.tile(0, 2), 0);
        bench.allow(0, 0, 1);
        due(9, "put(0, 0, 4), which is not allowed", bench.put(0, 0, 4), 0);
        due(9, "tile(0, 0)", bench.tile(0, 0), 4);
        due(9, "count(NONE) does not look at the sheet", bench.count(NONE), 2);
    }

    private static void tile() {
        LoopBoard bench = closed(4, 5);
        bench.put(3, 4, 8);
        due(10, "tile(3, 4)", bench.tile(3, 4), 8);
        due(10, "tile(3, 3)", bench.tile(3, 3), 0);
        due(10, "tile(4, 3)", bench.tile(4, 3), NONE);
        due(10, "tile(3, 5)", bench.tile(3, 5), NONE);
        due(10, "tile(-1, 1)", bench.tile(-1, 1), NONE);
        due(10, "tile(1, -1)", bench.tile(1, -1), NONE);
        due(10, "tile(least, greatest)", bench.tile(Integer.MIN_VALUE, Integer.MAX_VALUE), NONE);
    }

    private static void loops() {
        LoopBoard bench = closed(4, 5);
        due(11, "loops() of an empty sheet", bench.loops(), 0);
        lay(bench, 4, 4, 5, 4, 5, 3, 7, 8, 6, 4, 8, 7, 5, 3, 6, 3, 6, 0, 0, 0, 0);
        due(11, "loops() of four corners and the middle", bench.loops(), 5);
        bench.put(1, 1, 8);
        due(11, "loops() with a tile turned", bench.loops(), 4);
        bench.put(3, 4, 1);
        due(11, "loops() of no filling", bench.loops(), NONE);
        bench.put(3, 4, 0);
        bench.allow(1, 1, 1 << 9);
        due(11, "loops() with a tile that is not allowed", bench.loops(), NONE);
        bench.board(2, 2, true);
        lay(bench, 2, 9, 9, 9, 9);
        due(11, "loops() of four crossings", bench.loops(), 2);
        lay(bench, 2, 3, 6, 0, 0);
        due(11, "loops() of one arc", bench.loops(), 1);
    }

    private static void wrong() {
        LoopBoard bench = closed(2, 2);
        due(12, "wrong() of an empty sheet", bench.wrong(), 4);
        lay(bench, 2, 0, 0, 0, 4);
        due(12, "wrong(), lines end at the border", bench.wrong(), 3);
        lay(bench, 2, 4, 5, 3, 0);
        due(12, "wrong(), left and upper side not agreed on", bench.wrong(), 3);
        lay(bench, 2, 4, 5, 0, 6);
        due(12, "wrong(), upper side not agreed on", bench.wrong(), 2);
        lay(bench, 2, 4, 4, 3, 6);
        due(12, "wrong(), right side at the border", bench.wrong(), 1);
        lay(bench, 2, 4, 5, 3, 6);
        due(12, "wrong() of a filling", bench.wrong(), 4);
        bench.allow(1, 0, ALL & ~(1 << 5));
        due(12, "wrong(), not allowed", bench.wrong(), 1);
        wrongWithArcs();
    }

    private static void wrongWithArcs() {
        LoopBoard bench = withArcs(4, 4);
        due(12, "wrong() of an empty sheet with arcs", bench.wrong(), 16);
        lay(bench, 4, 3, 2);
        due(12, "wrong(), upper arc has one end", bench.wrong(), 1);
        lay(bench, 4, 3, 6);
        due(12, "wrong(), upper arc has two ends", bench.wrong(), 16);
        lay(bench, 4, 0, 3, 6, 0);
        due(12, "wrong(), two upper arcs are not joined", bench.wrong(), 1);
        lay(bench, 4, 0, 0, 0, 0, 0, 0, 0, 0, 5, 0, 0, 0, 0, 0, 0, 0);
        due(12, "wrong(), left arc has its first end", bench.wrong(), 12);
        lay(bench, 4, 0, 0, 0, 0, 0, 0, 0, 0, 5, 0, 0, 0, 6, 0, 0, 0);
        due(12, "wrong(), left arc has two ends", bench.wrong(), 16);
        lay(bench, 4, 0, 0, 0, 4, 0, 0, 0, 1, 0, 0, 0, 3, 0, 0, 0, 0);
        due(12, "wrong(), right arc of upper rows has one end", bench.wrong(), 7);
        lay(bench, 4, 0, 0, 0, 4, 0, 0, 0, 3, 0, 0, 0, 0, 0, 0, 0, 0);
        due(12, "wrong(), right arc has two ends", bench.wrong(), 16);
        lay(bench, 4, 0, 0, 0, 0, 0, 0, 0, 0, 0, 0, 0, 0, 0, 0, 4, 2);
        due(12, "wrong(), lower arc has one end", bench.wrong(), 15);
        lay(bench, 4, 0, 0, 0, 0, 0, 0, 0, 0, 0, 0, 0, 0, 0, 0, 4, 5);
        due(12, "wrong(), lower arc has two ends", bench.wrong(), 16);
    }

    private static void find() {
        LoopBoard bench = closed(3, 3);
        due(13, "find(NONE, 1)", bench.find(NONE, 1), true);
        int[] second = {0, 0, 0, 0, 4, 5, 0, 3, 6};
        for (int cell = 0; cell < 9; cell++) {
            due(13, "tile of cell " + cell, bench.tile(cell % 3, cell / 3), second[cell]);
        }
        due(13, "find(1, 17)", bench.find(1, 17), false);
        due(13, "find(NONE, 20)", bench.find(NONE, 20), false);
        due(13, "find(NONE, -1)", bench.find(NONE, -1), false);
        due(13, "find(0, 1)", bench.find(0, 1), false);
        due(13, "find(3, 0)", bench.find(3, 0), false);
        due(13, "find(-2, 0)", bench.find(-2, 0), false);
        due(13, "find(greatest, 0)", bench.find(Integer.MAX_VALUE, 0), false);
        due(13, "find(NONE, greatest)", bench.find(NONE, Long.MAX_VALUE), false);
        due(13, "find(NONE, least)", bench.find(NONE, Long.MIN_VALUE), false);
        due(13, "find(NONE, 2 to the 32nd)", bench.find(NONE, 1L << 32), false);
        for (int cell = 0; cell < 9; cell++) {
            due(13, "tile of cell " + cell + " stays", bench.tile(cell % 3, cell / 3), second[cell]);
        }
        findOnArcs();
    }

    private static void findOnArcs() {
        LoopBoard bench = withArcs(4, 4);
        due(13, "find(12, 0)", bench.find(12, 0), true);
        due(13, "longest()", bench.longest(), 4);
        due(13, "loops()", bench.loops(), 12);
        due(13, "find(12, 1)", bench.find(12, 1), false);
        for (long rank = 0; rank < 148110720; rank += 7000003) {
            due(13, "find(NONE, " + rank + ")", bench.find(NONE, rank), true);
            due(14, "rank(false)", bench.rank(false), rank);
            int loops = bench.loops();
            long same = bench.rank(true);
            bench.find(0, 0);
            due(13, "find(" + loops + ", " + same + ")", bench.find(loops, same), true);
            due(14, "rank(false) again", bench.rank(false), rank);
        }
    }

    private static void rank() {
        LoopBoard bench = closed(3, 3);
        due(14, "rank(false) of an empty sheet", bench.rank(false), 0);
        due(14, "rank(true) of an empty sheet", bench.rank(true), 0);
        lay(bench, 3, 4, 5, 0, 3, 7, 5, 0, 3, 6);
        due(14, "rank(false)", bench.rank(false), 17);
        due(14, "rank(true)", bench.rank(true), 1);
        bench.allow(1, 0, ALL & ~(1 << 0));
        due(14, "rank(false) when fewer are ahead", bench.rank(false) < 17, true);
        bench.put(2, 2, 0);
        due(14, "rank(false) of no filling", bench.rank(false), NONE);
        due(14, "rank(true) of no filling", bench.rank(true), NONE);
        bench.board(2, 2, true);
        bench.find(NONE, 151);
        due(14, "rank(false) of the last with arcs", bench.rank(false), 151);
    }

    private static void length() {
        LoopBoard bench = closed(3, 3);
        lay(bench, 3, 4, 5, 0, 3, 7, 5, 0, 3, 6);
        due(15, "length(1, 1, 0), up and left", bench.length(1, 1, 0), 4);
        due(15, "length(1, 1, 1), down and right", bench.length(1, 1, 1), 4);
        due(15, "length(2, 0, 0) of an empty cell", bench.length(2, 0, 0), 0);
        due(15, "length(0, 0, 1) of a cell with one piece", bench.length(0, 0, 1), 0);
        due(15, "length(0, 0, 2)", bench.length(0, 0, 2), NONE);
        due(15, "length(0, 0, -1)", bench.length(0, 0, NONE), NONE);
        due(15, "length(3, 0, 0)", bench.length(3, 0, 0), NONE);
        due(15, "length(0, 3, 0)", bench.length(0, 3, 0), NONE);
        due(15, "length(-1, 0, 0)", bench.length(NONE, 0, 0), NONE);
        due(15, "length(0, -1, 0)", bench.length(0, NONE, 0), NONE);
        due(15, "length(0, 0, least)", bench.length(0, 0, Integer.MIN_VALUE), NONE);
        bench.put(2, 2, 0);
        due(15, "length(0, 0, 0) of no filling", bench.length(0, 0, 0), NONE);
        due(15, "length(2, 2, 0) of no filling", bench.length(2, 2, 0), NONE);
        lengthWithArcs();
    }

    private static void lengthWithArcs() {
        LoopBoard bench = withArcs(2, 2);
        lay(bench, 2, 3, 7, 0, 3);
        due(15, "length(0, 0, 0)", bench.length(0, 0, 0), 2);
        due(15, "length(1, 0, 0), up and left", bench.length(1, 0, 0), 2);
        due(15, "length(1, 0, 1), down and right", bench.length(1, 0, 1), 2);
        lay(bench, 2, 3, 9, 0, 3);
        due(15, "length(1, 0, 0), up and down", bench.length(1, 0, 0), 4);
        lay(bench, 2, 9, 9, 9, 9);
        due(15, "length(0, 0, 0), up and down", bench.length(0, 0, 0), 4);
        due(15, "length(0, 0, 1), left and right", bench.length(0, 0, 1), 4);
    }

    private static void longest() {
        LoopBoard bench = closed(5, 4);
        due(16, "longest() of an empty sheet", bench.longest(), 0);
        lay(bench, 5, 4, 2, 5, 4, 5, 3, 2, 6, 1, 1, 0, 0, 0, 1, 1, 0, 0, 0, 3, 6);
        due(16, "longest()", bench.longest(), 8);
        due(16, "loops()", bench.loops(), 2);
        bench.put(0, 0, 0);
        due(16, "longest() of no filling", bench.longest(), NONE);
        bench.put(0, 0, 4);
        bench.allow(4, 3, 1);
        due(16, "longest() with a tile that is not allowed", bench.longest(), NONE);
        bench.board(4, 4, true);
        bench.allow(NONE, 0, 1 << 9);
        bench.find(NONE, 0);
        due(16, "longest() of crossings alone", bench.longest(), 8);
        due(16, "loops() of crossings alone", bench.loops(), 4);
    }

    private static void same() {
        LoopBoard bench = closed(3, 3);
        lay(bench, 3, 4, 5, 0, 3, 7, 5, 0, 3, 6);
        due(17, "same, the first piece and the upper left", bench.same(1, 1, 0, 0, 0, 0), 1);
        due(17, "same, the second piece and the upper left", bench.same(1, 1, 1, 0, 0, 0), 0);
        due(17, "same, the second piece and the lower right", bench.same(2, 2, 0, 1, 1, 1), 1);
        due(17, "same, both pieces of a cell", bench.same(1, 1, 0, 1, 1, 1), 0);
        due(17, "same, a piece and itself", bench.same(0, 0, 0, 0, 0, 0), 1);
        due(17, "same, no first piece", bench.same(2, 0, 0, 0, 0, 0), NONE);
        due(17, "same, no second piece", bench.same(0, 0, 0, 2, 0, 0), NONE);
        due(17, "same, a cell has one piece alone", bench.same(0, 0, 1, 0, 0, 0), NONE);
        due(17, "same, piece 2", bench.same(1, 1, 2, 0, 0, 0), NONE);
        due(17, "same, other -1", bench.same(1, 1, 0, 0, 0, NONE), NONE);
        due(17, "same, no first cell", bench.same(3, 0, 0, 0, 0, 0), NONE);
        due(17, "same, no second cell", bench.same(0, 0, 0, 0, 3, 0), NONE);
        due(17, "same, cells below 0", bench.same(NONE, 0, 0, 0, NONE, 0), NONE);
        bench.put(1, 1, 9);
        due(17, "same, both pieces of a crossing", bench.same(1, 1, 0, 1, 1, 1), 1);
        bench.put(2, 2, 0);
        due(17, "same of no filling", bench.same(0, 0, 0, 1, 0, 0), NONE);
        bench.board(2, 2, true);
        lay(bench, 2, 3, 7, 0, 3);
        due(17, "same, over an arc", bench.same(0, 0, 0, 1, 0, 0), 1);
        due(17, "same, over the arc at the right", bench.same(1, 0, 1, 1, 1, 0), 1);
        due(17, "same, two loops with arcs", bench.same(0, 0, 0, 1, 1, 0), 0);
    }

    public static void main(String[] args) {
        newObject();
        board();
        allow();
        allowed();
        count();
        weigh();
        loopsOf();
        having();
        put();
        tile();
        loops();
        wrong();
        find();
        rank();
        length();
        longest();
        same();
        System.out.println(failures == 0 ? "all answers are as due" : failures + " answers are not as due");
        if (failures != 0) {
            System.exit(1);
        }
    }
}
