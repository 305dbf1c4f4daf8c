import java.util.ArrayList;
import java.util.Arrays;
import java.util.List;
import java.util.Random;

/**
 * Lists all fillings of a board by trying every tile in every cell, follows their loops by joining the two
 * ends of each piece, and asks LoopBoard for the same things. Nothing here is shared with the class.
 */
public final class EnumerationTest {
    private static final int MOST_CALLS = 512;
    /** Per tile the sides that its pieces join, two letters a piece, as the document tells them. */
    private static final String[] PIECES = {
        "", "ud", "lr", "ur", "rd", "dl", "lu", "uldr", "urdl", "udlr"
    };

    private static int failures = 0;
    private static final Random RANDOM = new Random(20261117);

    private static final class Filling {
        int[] tiles;
        int loops;
        int[] roots;
        int[] lengths;
    }

    private static final class Model {
        final int wide;
        final int high;
        final boolean arcs;
        final int[] masks;
        final List<Filling> fillings = new ArrayList<>();
        private final int[] tiles;

        Model(int wide, int high, boolean arcs, int[] masks) {
            this.wide = wide;
            this.high = high;
            this.arcs = arcs;
            this.masks = masks;
            this.tiles = new int[wide * high];
            extend(0);
        }

        /** Numbers a side so that both cells that have it in common, or the two ends of an arc, agree. */
        int sideOf(int x, int y, char side) {
            int edge;
            switch (side) {
                case 'u': edge = y == 0 ? borderSide(0, x) : 1000 + 100 * x + y; break;
                case 'd': edge = y == high - 1 ? borderSide(1, x) : 1000 + 100 * x + y + 1; break;
                case 'l': edge = x == 0 ? borderSide(2, y) : 2000 + 100 * x + y; break;
                default: edge = x == wide - 1 ? borderSide(3, y) : 2000 + 100 * (x + 1) + y; break;
            }
            return edge;
        }

        private int borderSide(int which, int place) {
            return arcs ? 10 * which + place / 2 : -1;
        }

        private boolean has(int tile, char side) {
            return PIECES[tile].indexOf(side) >= 0;
        }

        /** Whether all the sides of cells up to this one that two cells have settled are agreed on. */
        boolean fits(int[] board, int cell) {
            int x = cell % wide;
            int y = cell / wide;
            if ((masks[cell] >> board[cell] & 1) == 0) {
                return false;
            }
            for (char side : "urdl".toCharArray()) {
                int edge = sideOf(x, y, side);
                boolean here = has(board[cell], side);
                if (edge == -1 && here) {
                    return false;
                }
                for (int other = 0; edge != -1 && other < cell; other++) {
                    for (char far : "urdl".toCharArray()) {
                        if (sideOf(other % wide, other / wide, far) == edge && has(board[other], far) != here) {
                            return false;
                        }
                    }
                }
            }
            return true;
        }

        int firstMisfit(int[] board) {
            for (int cell = 0; cell < board.length; cell++) {
                if (!fits(board, cell)) {
                    return cell;
                }
            }
            return board.length;
        }

        private void extend(int cell) {
            if (cell == tiles.length) {
                fillings.add(traced(tiles.clone()));
                return;
            }
            for (int tile = 0; tile < 10; tile++) {
                tiles[cell] = tile;
                if (fits(tiles, cell)) {
                    extend(cell + 1);
                }
            }
            tiles[cell] = 0;
        }

        private int root(int[] parents, int at) {
            while (parents[at] != at) {
                at = parents[at];
            }
            return at;
        }

        Filling traced(int[] board) {
            int[] ends = new int[4 * board.length];
            int[] parents = new int[2 * board.length];
            Arrays.fill(ends, -1);
            for (int piece = 0; piece < parents.length; piece++) {
                parents[piece] = piece;
                int at = 2 * (piece % 2);
                String pieces = PIECES[board[piece / 2]];
                for (int end = at; end < at + 2 && end < pieces.length(); end++) {
                    ends[2 * piece + end - at] =
                        sideOf(piece / 2 % wide, piece / 2 / wide, pieces.charAt(end));
                }
            }
            for (int one = 0; one < ends.length; one++) {
                for (int two = 0; two < one; two++) {
                    if (ends[one] != -1 && ends[one] == ends[two]) {
                        parents[root(parents, one / 2)] = root(parents, two / 2);
                    }
                }
            }
            Filling filling = new Filling();
            filling.tiles = board;
            filling.roots = new int[parents.length];
            filling.lengths = new int[parents.length];
            for (int piece = 0; piece < parents.length; piece++) {
                boolean there = ends[2 * piece] != -1;
                filling.roots[piece] = there ? root(parents, piece) : -1;
                if (there) {
                    filling.lengths[filling.roots[piece]]++;
                }
            }
            for (int length : filling.lengths) {
                filling.loops += length > 0 ? 1 : 0;
            }
            return filling;
        }

        @Override
        public String toString() {
            return wide + " by " + high + (arcs ? " with arcs " : " closed ") + Arrays.toString(masks);
        }
    }

    /** An object for the model's board that is renewed ahead of its 512th call. */
    private static final class Bench {
        private final Model model;
        private LoopBoard bench;
        private int calls = MOST_CALLS;

        Bench(Model model) {
            this.model = model;
        }

        LoopBoard forCalls(int more) {
            if (calls + more > MOST_CALLS) {
                bench = new LoopBoard();
                bench.board(model.wide, model.high, model.arcs);
                for (int cell = 0; cell < model.masks.length; cell++) {
                    bench.allow(cell % model.wide, cell / model.wide, model.masks[cell]);
                }
                calls = 1 + model.masks.length;
            }
            calls += more;
            return bench;
        }
    }

    private static void due(Model model, String call, long got, long want) {
        if (got != want) {
            failures++;
            if (failures < 50) {
                System.out.println(model + ": " + call + " answered " + got + ", due is " + want);
            }
        }
    }

    private static void checkCounts(Model model, Bench bench) {
        long[] byLoops = new long[24];
        for (Filling filling : model.fillings) {
            byLoops[filling.loops]++;
        }
        for (int loops = 0; loops < byLoops.length; loops++) {
            due(model, "count(" + loops + ")", bench.forCalls(1).count(loops), byLoops[loops]);
        }
        due(model, "count(NONE)", bench.forCalls(1).count(LoopBoard.NONE), model.fillings.size());
        int least = LoopBoard.NONE;
        int greatest = LoopBoard.NONE;
        for (int loops = byLoops.length - 1; loops >= 0; loops--) {
            if (byLoops[loops] > 0) {
                least = loops;
                greatest = Math.max(greatest, loops);
            }
        }
        due(model, "loopsOf(0)", bench.forCalls(1).loopsOf(0), least);
        due(model, "loopsOf(1)", bench.forCalls(1).loopsOf(1), greatest);
        for (int n : new int[] {0, 1, 2, 3, -1, -7, 1000, Integer.MAX_VALUE, Integer.MIN_VALUE}) {
            long sum = 0;
            for (Filling filling : model.fillings) {
                long power = 1;
                for (int loop = 0; loop < filling.loops; loop++) {
                    power *= n;
                }
                sum += power;
            }
            due(model, "weigh(" + n + ")", bench.forCalls(1).weigh(n), sum);
        }
    }

    private static void checkHaving(Model model, Bench bench) {
        long[][] having = new long[model.masks.length][10];
        for (Filling filling : model.fillings) {
            for (int cell = 0; cell < having.length; cell++) {
                having[cell][filling.tiles[cell]]++;
            }
        }
        for (int cell = 0; cell < having.length; cell++) {
            for (int tile = 0; tile < 10; tile++) {
                int x = cell % model.wide;
                int y = cell / model.wide;
                due(model, "having(" + x + ", " + y + ", " + tile + ")",
                    bench.forCalls(1).having(x, y, tile), having[cell][tile]);
            }
        }
    }

    private static void checkRanks(Model model, Bench bench, int most) {
        long[] byLoops = new long[24];
        int step = Math.max(1, model.fillings.size() / most);
        int offset = RANDOM.nextInt(step);
        for (int rank = 0; rank < model.fillings.size(); rank++) {
            Filling filling = model.fillings.get(rank);
            boolean last = rank == model.fillings.size() - 1;
            if (rank % step == offset || rank == 0 || last) {
                checkFilling(model, bench, filling, rank, byLoops[filling.loops]);
            }
            byLoops[filling.loops]++;
        }
        for (int loops = -3; loops < byLoops.length; loops++) {
            long size = loops == LoopBoard.NONE ? model.fillings.size() : loops < 0 ? 0 : byLoops[loops];
            LoopBoard bench1 = bench.forCalls(4);
            due(model, "find(" + loops + ", " + size + ")", bench1.find(loops, size) ? 1 : 0, 0);
            due(model, "find(" + loops + ", -1)", bench1.find(loops, -1) ? 1 : 0, 0);
            due(model, "find(.., greatest)", bench1.find(loops, Long.MAX_VALUE) ? 1 : 0, 0);
            due(model, "find(.., last)", bench1.find(loops, size - 1) ? 1 : 0, size > 0 ? 1 : 0);
        }
    }

    private static void checkFilling(Model model, Bench bench, Filling filling, long rank, long sameRank) {
        int cells = model.masks.length;
        LoopBoard found = bench.forCalls(2 * cells + 7);
        due(model, "find(NONE, " + rank + ")", found.find(LoopBoard.NONE, rank) ? 1 : 0, 1);
        checkTiles(model, found, filling.tiles);
        due(model, "rank(false)", found.rank(false), rank);
        due(model, "rank(true)", found.rank(true), sameRank);
        due(model, "loops()", found.loops(), filling.loops);
        due(model, "wrong()", found.wrong(), cells);
        due(model, "longest()", found.longest(), Arrays.stream(filling.lengths).max().orElse(0));
        due(model, "find(" + filling.loops + ", " + sameRank + ")",
            found.find(filling.loops, sameRank) ? 1 : 0, 1);
        checkTiles(model, found, filling.tiles);
        checkPieces(model, bench, filling, rank);
        checkSpoilt(model, bench, filling);
    }

    private static void checkTiles(Model model, LoopBoard bench, int[] tiles) {
        for (int cell = 0; cell < tiles.length; cell++) {
            due(model, "tile of cell " + cell, bench.tile(cell % model.wide, cell / model.wide), tiles[cell]);
        }
    }

    private static void checkPieces(Model model, Bench bench, Filling filling, long rank) {
        int pieces = filling.roots.length;
        for (int one = 0; one < pieces; one++) {
            LoopBoard found = bench.forCalls(5);
            found.find(LoopBoard.NONE, rank);
            int x = one / 2 % model.wide;
            int y = one / 2 / model.wide;
            int root = filling.roots[one];
            due(model, "length(" + x + ", " + y + ", " + one % 2 + ")", found.length(x, y, one % 2),
                root == -1 ? 0 : filling.lengths[root]);
            for (int turn = 0; turn < 3; turn++) {
                int two = RANDOM.nextInt(pieces);
                int u = two / 2 % model.wide;
                int v = two / 2 / model.wide;
                boolean both = root != -1 && filling.roots[two] != -1;
                due(model, "same(" + x + ", " + y + ", " + one % 2 + ", " + u + ", " + v + ", " + two % 2 + ")",
                    found.same(x, y, one % 2, u, v, two % 2),
                    both ? root == filling.roots[two] ? 1 : 0 : LoopBoard.NONE);
            }
        }
    }

    /** Puts another tile into the filling: mostly it is none then, and sometimes it is another one. */
    private static void checkSpoilt(Model model, Bench bench, Filling filling) {
        int[] tiles = filling.tiles.clone();
        int changed = RANDOM.nextInt(tiles.length);
        int before = tiles[changed];
        tiles[changed] = RANDOM.nextInt(10);
        LoopBoard spoilt = bench.forCalls(tiles.length + 9);
        for (int cell = 0; cell < tiles.length; cell++) {
            spoilt.put(cell % model.wide, cell / model.wide, filling.tiles[cell]);
        }
        due(model, "put(..)", spoilt.put(changed % model.wide, changed / model.wide, tiles[changed]), before);
        int misfit = model.firstMisfit(tiles);
        due(model, "wrong() of " + Arrays.toString(tiles), spoilt.wrong(), misfit);
        boolean filled = misfit == tiles.length;
        due(model, "loops() of " + Arrays.toString(tiles), spoilt.loops(),
            filled ? model.traced(tiles).loops : LoopBoard.NONE);
        if (!filled) {
            due(model, "rank(false)", spoilt.rank(false), LoopBoard.NONE);
            due(model, "rank(true)", spoilt.rank(true), LoopBoard.NONE);
            due(model, "longest()", spoilt.longest(), LoopBoard.NONE);
            due(model, "length(0, 0, 0)", spoilt.length(0, 0, 0), LoopBoard.NONE);
            due(model, "length(0, 0, 1)", spoilt.length(0, 0, 1), LoopBoard.NONE);
            due(model, "same(..)", spoilt.same(0, 0, 0, 0, 0, 0), LoopBoard.NONE);
        }
    }

    private static void check(int wide, int high, boolean arcs, int[] masks) {
        Model model = new Model(wide, high, arcs, masks);
        Bench bench = new Bench(model);
        checkCounts(model, bench);
        checkHaving(model, bench);
        checkRanks(model, bench, 200);
    }

    private static int[] allAllowed(int cells) {
        int[] masks = new int[cells];
        Arrays.fill(masks, 1023);
        return masks;
    }

    private static int[] someAllowed(int cells, int chance) {
        int[] masks = new int[cells];
        for (int cell = 0; cell < cells; cell++) {
            for (int tile = 0; tile < 10; tile++) {
                masks[cell] |= RANDOM.nextInt(100) < chance ? 1 << tile : 0;
            }
        }
        return masks;
    }

    /** Fillings of these are few although the board is great: tiles of two pieces, and crossings here and there. */
    private static int[] twoPieceTiles(int cells) {
        int[] masks = new int[cells];
        for (int cell = 0; cell < cells; cell++) {
            masks[cell] = 1 << 7 + RANDOM.nextInt(3) | 1 << 7 + RANDOM.nextInt(3);
        }
        return masks;
    }

    public static void main(String[] args) {
        for (int wide = 1; wide <= 5; wide++) {
            for (int high = 1; high <= 5 && wide * high <= 20; high++) {
                check(wide, high, false, allAllowed(wide * high));
                check(wide, high, false, someAllowed(wide * high, 80));
                check(wide, high, false, someAllowed(wide * high, 60));
                if (wide % 2 == 0 && high % 2 == 0) {
                    if (wide * high < 16) {
                        check(wide, high, true, allAllowed(wide * high));
                    }
                    check(wide, high, true, someAllowed(wide * high, 55));
                    check(wide, high, true, someAllowed(wide * high, 45));
                    check(wide, high, true, twoPieceTiles(wide * high));
                }
            }
        }
        System.out.println(failures == 0 ? "all answers are as due" : failures + " answers are not as due");
        if (failures != 0) {
            System.exit(1);
        }
    }
}
