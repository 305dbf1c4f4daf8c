import java.util.Arrays;
import java.util.Random;

/**
 * One object through 512 calls of all kinds in any order, against a fresh object for each question that was
 * only told the state: what an object keeps from call to call must never show.
 */
public final class ReuseTest {
    private static final int CALLS = 512;
    private static final int RUNS = 60;
    private static int failures = 0;

    private final Random random;
    private final LoopBoard used = new LoopBoard();
    private int wide = 1;
    private int high = 1;
    private boolean arcs = false;
    private int[] masks = {1023};
    private int[] tiles = {0};

    private ReuseTest(long seed) {
        random = new Random(seed);
    }

    private LoopBoard fresh() {
        LoopBoard bench = new LoopBoard();
        bench.board(wide, high, arcs);
        for (int cell = 0; cell < masks.length; cell++) {
            bench.allow(cell % wide, cell / wide, masks[cell]);
            bench.put(cell % wide, cell / wide, tiles[cell]);
        }
        return bench;
    }

    private void due(String call, long got, long want) {
        if (got != want) {
            failures++;
            System.out.println(wide + " by " + high + (arcs ? " with arcs: " : ": ") + call + " answered " + got
                + ", due is " + want);
        }
    }

    /** Mostly a place on the board, now and then one beside it. */
    private int place(int bound) {
        return random.nextInt(12) == 0 ? random.nextInt(9) - 2 : random.nextInt(bound);
    }

    private boolean onBoard(int x, int y) {
        return x >= 0 && x < wide && y >= 0 && y < high;
    }

    private int bits() {
        switch (random.nextInt(4)) {
            case 0: return random.nextInt();
            case 1: return 1023;
            case 2: return 1023 & ~(1 << random.nextInt(10));
            default: return random.nextInt(1024) | random.nextInt(1024);
        }
    }

    private void changeBoard() {
        int newWide = random.nextInt(6);
        int newHigh = random.nextInt(6);
        boolean newArcs = random.nextInt(3) == 0;
        boolean can = newWide > 0 && newHigh > 0 && newWide * newHigh <= 20
            && (!newArcs || newWide % 2 == 0 && newHigh % 2 == 0);
        due("board", used.board(newWide, newHigh, newArcs) ? 1 : 0, can ? 1 : 0);
        if (can) {
            wide = newWide;
            high = newHigh;
            arcs = newArcs;
            masks = new int[wide * high];
            tiles = new int[wide * high];
            Arrays.fill(masks, 1023);
        }
    }

    private void changeAllowed() {
        boolean all = random.nextInt(8) == 0;
        int x = all ? LoopBoard.NONE : place(wide);
        int y = all ? random.nextInt() : place(high);
        all = x == LoopBoard.NONE;
        int bits = bits();
        due("allow", used.allow(x, y, bits) ? 1 : 0, all || onBoard(x, y) ? 1 : 0);
        for (int cell = 0; cell < masks.length; cell++) {
            if (all || onBoard(x, y) && cell == x + wide * y) {
                masks[cell] = bits & 1023;
            }
        }
    }

    private void askAllowed() {
        int x = place(wide);
        int y = place(high);
        due("allowed", used.allowed(x, y), onBoard(x, y) ? masks[x + wide * y] : LoopBoard.NONE);
    }

    private void changeTile() {
        int x = place(wide);
        int y = place(high);
        int tile = place(10);
        boolean there = onBoard(x, y) && tile >= 0 && tile < 10;
        due("put", used.put(x, y, tile), there ? tiles[x + wide * y] : LoopBoard.NONE);
        if (there) {
            tiles[x + wide * y] = tile;
        }
    }

    private void askTile() {
        int x = place(wide);
        int y = place(high);
        due("tile", used.tile(x, y), onBoard(x, y) ? tiles[x + wide * y] : LoopBoard.NONE);
    }

    private void findOne() {
        LoopBoard other = fresh();
        int loops = random.nextInt(3) == 0 ? random.nextInt(8) - 2 : LoopBoard.NONE;
        long size = other.count(loops);
        long rank = size == 0 || random.nextInt(6) == 0 ? size : Math.floorMod(random.nextLong(), size);
        due("find", used.find(loops, rank) ? 1 : 0, rank < size ? 1 : 0);
        other.find(loops, rank);
        for (int cell = 0; cell < tiles.length; cell++) {
            tiles[cell] = other.tile(cell % wide, cell / wide);
        }
    }

    private void askCounts() {
        int loops = random.nextInt(9) - 2;
        int n = random.nextInt(9) - 4;
        int x = place(wide);
        int y = place(high);
        int tile = place(10);
        switch (random.nextInt(4)) {
            case 0: due("count", used.count(loops), fresh().count(loops)); break;
            case 1: due("weigh", used.weigh(n), fresh().weigh(n)); break;
            case 2: due("loopsOf", used.loopsOf(loops), fresh().loopsOf(loops)); break;
            default: due("having", used.having(x, y, tile), fresh().having(x, y, tile)); break;
        }
    }

    private void askSheet() {
        int x = place(wide);
        int y = place(high);
        int piece = random.nextInt(2);
        int u = place(wide);
        int v = place(high);
        switch (random.nextInt(7)) {
            case 0: due("loops", used.loops(), fresh().loops()); break;
            case 1: due("wrong", used.wrong(), fresh().wrong()); break;
            case 2: due("rank(false)", used.rank(false), fresh().rank(false)); break;
            case 3: due("rank(true)", used.rank(true), fresh().rank(true)); break;
            case 4: due("length", used.length(x, y, piece), fresh().length(x, y, piece)); break;
            case 5: due("longest", used.longest(), fresh().longest()); break;
            default: due("same", used.same(x, y, piece, u, v, 0), fresh().same(x, y, piece, u, v, 0)); break;
        }
    }

    private void run() {
        for (int call = 0; call < CALLS; call++) {
            int kind = random.nextInt(100);
            if (kind < 4) {
                changeBoard();
            } else if (kind < 18) {
                changeAllowed();
            } else if (kind < 22) {
                askAllowed();
            } else if (kind < 30) {
                changeTile();
            } else if (kind < 38) {
                askTile();
            } else if (kind < 52) {
                findOne();
            } else if (kind < 75) {
                askCounts();
            } else {
                askSheet();
            }
        }
    }

    public static void main(String[] args) {
        for (int seed = 1; seed <= RUNS; seed++) {
            new ReuseTest(seed).run();
        }
        System.out.println(failures == 0 ? "all answers are as due" : failures + " answers are not as due");
        if (failures != 0) {
            System.exit(1);
        }
    }
}
