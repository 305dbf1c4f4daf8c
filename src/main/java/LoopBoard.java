/**
 * A bench for boards that are filled with closed lines.
 *
 * Cells are taken row by row, and of those that are done only the front matters for what may follow: which
 * sides lead on, and which two of them are the ends of one line. There are few fronts, so fillings are
 * counted from the last cell back, for each front and each number of loops that are still to be closed;
 * ranks are read from these numbers.
 */
public final class LoopBoard {
    public static final int NONE = -1;

    private static final int MOST_WIDE = 5;
    private static final int MOST_CELLS = 20;
    private static final int TILES = 10;
    private static final int ALL_TILES = (1 << TILES) - 1;

    private static final int UP = 0;
    private static final int RIGHT = 1;
    private static final int DOWN = 2;
    private static final int LEFT = 3;

    private static final int UP_BIT = 1 << UP;
    private static final int RIGHT_BIT = 1 << RIGHT;
    private static final int DOWN_BIT = 1 << DOWN;
    private static final int LEFT_BIT = 1 << LEFT;

    /** For each tile the sides at which a piece ends, as bits. */
    private static final int[] SIDES = {0, 5, 10, 3, 6, 12, 9, 15, 15, 15};

    /** For each tile, and in it for up, right, down, left: the side that a piece joins it to. */
    private static final int[] OTHER_SIDE = {
        NONE, NONE, NONE, NONE,
        DOWN, NONE, UP, NONE,
        NONE, LEFT, NONE, RIGHT,
        RIGHT, UP, NONE, NONE,
        NONE, DOWN, RIGHT, NONE,
        NONE, NONE, LEFT, DOWN,
        LEFT, NONE, NONE, UP,
        LEFT, DOWN, RIGHT, UP,
        RIGHT, UP, LEFT, DOWN,
        DOWN, LEFT, UP, RIGHT,
    };

    /** For each tile, and in it for its first and second piece: the side that the document names last. */
    private static final int[] LAST_SIDE = {
        NONE, NONE,
        DOWN, NONE,
        RIGHT, NONE,
        RIGHT, NONE,
        DOWN, NONE,
        LEFT, NONE,
        UP, NONE,
        LEFT, RIGHT,
        RIGHT, LEFT,
        DOWN, RIGHT,
    };

    private final Board ground;
    private final Sheet sheet;
    private final Ways ways;

    public LoopBoard() {
        Board board = new Board();
        Front front = new Front(board);
        ground = board;
        sheet = new Sheet(board, front);
        ways = new Ways(board, new Moves(board, front));
    }

    public boolean board(int wide, int high, boolean arcs) {
        if (!Board.canBe(wide, high, arcs)) {
            return false;
        }
        ground.renew(wide, high, arcs);
        sheet.blank();
        ways.forget();
        return true;
    }

    public boolean allow(int x, int y, int bits) {
        if (x == NONE) {
            int cells = ground.cells();
            for (int cell = 0; cell < cells; cell++) {
                permit(cell, bits);
            }
            return true;
        }
        int cell = ground.cellAt(x, y);
        if (cell == NONE) {
            return false;
        }
        permit(cell, bits);
        return true;
    }

    private void permit(int cell, int bits) {
        if (ground.permit(cell, bits)) {
            ways.forgetUpTo(cell);
        }
    }

    public int allowed(int x, int y) {
        int cell = ground.cellAt(x, y);
        return cell == NONE ? NONE : ground.permitted(cell);
    }

    // ---- counting

    public long count(int loops) {
        ways.solve();
        return ways.fillings(loops);
    }

    public long weigh(int n) {
        ways.solve();
        long sum = 0;
        long power = 1;
        for (int closed = 0; closed <= Ways.MOST_LOOPS; closed++) {
            sum += power * ways.fillings(closed);
            power *= n;
        }
        return sum;
    }

    public int loopsOf(int what) {
        if (what != 0 && what != 1) {
            return NONE;
        }
        ways.solve();
        int found = NONE;
        for (int closed = 0; closed <= Ways.MOST_LOOPS; closed++) {
            boolean wanted = what == 1 || found == NONE;
            if (wanted && ways.fillings(closed) > 0) {
                found = closed;
            }
        }
        return found;
    }

    public long having(int x, int y, int tile) {
        int cell = ground.cellAt(x, y);
        if (cell == NONE || !isTile(tile)) {
            return NONE;
        }
        ways.solve();
        return ways.fillingsThrough(cell, tile);
    }

    // ---- the sheet

    public int put(int x, int y, int tile) {
        int cell = ground.cellAt(x, y);
        if (cell == NONE || !isTile(tile)) {
            return NONE;
        }
        int before = sheet.at(cell);
        sheet.lay(cell, tile);
        return before;
    }

    public int tile(int x, int y) {
        int cell = ground.cellAt(x, y);
        return cell == NONE ? NONE : sheet.at(cell);
    }

    public int loops() {
        return sheet.isFilling() ? sheet.closedLoops() : NONE;
    }

    public int wrong() {
        return sheet.firstMisfit();
    }

    public boolean find(int loops, long rank) {
        ways.solve();
        if (rank < 0 || rank >= ways.fillings(loops)) {
            return false;
        }
        ways.choose(sheet, loops, rank);
        return true;
    }

    public long rank(boolean same) {
        if (!sheet.isFilling()) {
            return NONE;
        }
        ways.solve();
        return ways.ahead(sheet, same ? sheet.closedLoops() : NONE);
    }

    public int length(int x, int y, int piece) {
        int cell = ground.cellAt(x, y);
        if (cell == NONE || piece < 0 || piece > 1 || !sheet.isFilling()) {
            return NONE;
        }
        int start = sheet.pieceAt(cell, piece);
        return start == NONE ? 0 : sheet.follow(start);
    }

    public int longest() {
        return sheet.isFilling() ? sheet.greatestLength() : NONE;
    }

    public int same(int x, int y, int piece, int u, int v, int other) {
        int start = sheet.pieceAt(ground.cellAt(x, y), piece);
        int second = sheet.pieceAt(ground.cellAt(u, v), other);
        if (start == NONE || second == NONE || !sheet.isFilling()) {
            return NONE;
        }
        sheet.forgetMet();
        sheet.follow(start);
        return sheet.hasMet(second) ? 1 : 0;
    }

    private static boolean isTile(int tile) {
        return tile >= 0 && tile < TILES;
    }

    /** How wide and high it is, what its border does, and which tiles its cells allow. */
    private static final class Board {
        int wide;
        int high;
        boolean arcs;
        private final int[] masks = new int[MOST_CELLS];
        private final int[] edges = new int[MOST_CELLS];
        private final int[] firstEnds = new int[MOST_CELLS];

        Board() {
            renew(1, 1, false);
        }

        static boolean canBe(int wide, int high, boolean arcs) {
            if (wide < 1 || wide > MOST_WIDE || high < 1 || high > MOST_WIDE || wide * high > MOST_CELLS) {
                return false;
            }
            return !arcs || (isEven(wide) && isEven(high));
        }

        static boolean isEven(int number) {
            return (number & 1) == 0;
        }

        void renew(int newWide, int newHigh, boolean withArcs) {
            wide = newWide;
            high = newHigh;
            arcs = withArcs;
            for (int cell = 0; cell < MOST_CELLS; cell++) {
                masks[cell] = ALL_TILES;
                edges[cell] = edgesAt(column(cell), row(cell));
                firstEnds[cell] = arcs ? edges[cell] & firstOfTwo(column(cell), row(cell)) : 0;
            }
        }

        private int edgesAt(int x, int y) {
            int sides = 0;
            if (y == 0) {
                sides |= UP_BIT;
            }
            if (x == wide - 1) {
                sides |= RIGHT_BIT;
            }
            if (y == high - 1) {
                sides |= DOWN_BIT;
            }
            if (x == 0) {
                sides |= LEFT_BIT;
            }
            return sides;
        }

        private static int firstOfTwo(int x, int y) {
            return (isEven(x) ? UP_BIT | DOWN_BIT : 0) | (isEven(y) ? LEFT_BIT | RIGHT_BIT : 0);
        }

        int cells() {
            return wide * high;
        }

        boolean has(int cell) {
            return cell >= 0 && cell < wide * high && cell < MOST_CELLS;
        }

        /** The sides of a cell that are sides of the border, as bits. */
        int edgesOf(int cell) {
            return has(cell) ? edges[cell] : 0;
        }

        /** Those at which an arc begins that leads to a cell behind it. */
        int firstEndsOf(int cell) {
            return has(cell) ? firstEnds[cell] : 0;
        }

        /** Those at which an arc ends that comes from a cell ahead of it. */
        int secondEndsOf(int cell) {
            return arcs && has(cell) ? edges[cell] & ~firstEnds[cell] : 0;
        }

        int cellAt(int x, int y) {
            if (x < 0 || x >= wide || y < 0 || y >= high) {
                return NONE;
            }
            return x + wide * y;
        }

        int column(int cell) {
            return wide > 0 ? cell % wide : 0;
        }

        int row(int cell) {
            return wide > 0 ? cell / wide : 0;
        }

        /** Whether that changed what is permitted. */
        boolean permit(int cell, int bits) {
            int mask = bits & ALL_TILES;
            if (!has(cell) || masks[cell] == mask) {
                return false;
            }
            masks[cell] = mask;
            return true;
        }

        int permitted(int cell) {
            return has(cell) ? masks[cell] : 0;
        }

        boolean permits(int cell, int tile) {
            return isTile(tile) && (permitted(cell) >> tile & 1) == 1;
        }

        boolean atBorder(int cell, int side) {
            return (edgesOf(cell) >> side & 1) == 1;
        }

        /** The cell that a line comes to when it leaves a cell by a side. */
        int beyond(int cell, int side) {
            int x = column(cell);
            int y = row(cell);
            boolean upright = side == UP || side == DOWN;
            if (atBorder(cell, side)) {
                // The two columns (or rows) that an arc joins differ in their lowest bit alone.
                return upright ? cellAt(x ^ 1, y) : cellAt(x, y ^ 1);
            }
            int step = side == RIGHT || side == DOWN ? 1 : -1;
            return upright ? cellAt(x, y + step) : cellAt(x + step, y);
        }
    }

    /**
     * Where lines lead on from the cells that are done, each such place being a slot, and which two slots
     * are the ends of one line.
     *
     * Slot x is the lower side of column x, slot wide the line that goes to the right in the row. With arcs
     * an even row leaves two ends for the odd row below it: its left one in slot wide + 1, its right one in
     * slot wide, where its line has come to. So the odd row's own line begins and goes in slot wide + 1, and
     * six slots do for every board.
     */
    private static final class Front {
        static final int SLOTS = 6;
        /** In how many ways some of so many slots can be joined by twos. */
        private static final int[] JOININGS = {1, 1, 2, 4, 10, 26, 76};
        static final int FRONTS = 76;

        private final Board board;
        private final int[] mates = new int[SLOTS];

        Front(Board itsBoard) {
            board = itsBoard;
            clear();
        }

        static int joinings(int slots) {
            return slots < 0 || slots > SLOTS ? FRONTS : JOININGS[slots];
        }

        void clear() {
            unpack(0);
        }

        int pack() {
            int code = 0;
            for (int slot = SLOTS - 1; slot >= 0; slot--) {
                code = code << 3 | mates[slot] + 1;
            }
            return code;
        }

        void unpack(int code) {
            for (int slot = 0; slot < SLOTS; slot++) {
                mates[slot] = (code >> 3 * slot & 7) - 1;
            }
        }

        /**
         * Which front it is. The highest slots weigh most, so that the fronts of a narrow board, which leave
         * them empty, are the first ones.
         */
        int number() {
            int number = 0;
            int done = 0;
            int left = SLOTS;
            for (int slot = SLOTS - 1; slot >= 0; slot--) {
                if ((done >> slot & 1) == 1) {
                    continue;
                }
                int mate = mateOf(slot);
                left--;
                if (mate != NONE) {
                    int below = mate - Integer.bitCount(done & (1 << mate) - 1);
                    number += joinings(left) + below * joinings(left - 1);
                    done |= 1 << mate;
                    left--;
                }
            }
            return number;
        }

        private int mateOf(int slot) {
            return slot >= 0 && slot < SLOTS ? mates[slot] : NONE;
        }

        private boolean leadsOn(int slot) {
            return mateOf(slot) != NONE;
        }

        private void pair(int slot, int other) {
            if (slot >= 0 && slot < SLOTS && other >= 0 && other < SLOTS) {
                mates[slot] = other;
                mates[other] = slot;
            }
        }

        private void empty(int slot) {
            if (slot >= 0 && slot < SLOTS) {
                mates[slot] = NONE;
            }
        }

        private int lineSlot(int row) {
            return board.arcs && !Board.isEven(row) ? board.wide + 1 : board.wide;
        }

        boolean agrees(int cell, int tile) {
            return isTile(tile) && (SIDES[tile] & settledSides(cell)) == wantedSides(cell);
        }

        /** The sides of a cell for which the cells ahead of it, or the border, have settled what it has. */
        int settledSides(int cell) {
            return (UP_BIT | LEFT_BIT | board.edgesOf(cell)) & ~board.firstEndsOf(cell);
        }

        /** Those of the settled sides that the cell must have a piece at. */
        int wantedSides(int cell) {
            int x = board.column(cell);
            int seconds = board.secondEndsOf(cell);
            int sides = 0;
            if (leadsOn(x)) {
                sides |= UP_BIT;
            }
            if (leadsOn(lineSlot(board.row(cell)))) {
                sides |= LEFT_BIT;
            }
            if ((seconds & RIGHT_BIT) != 0 && leadsOn(board.wide)) {
                sides |= RIGHT_BIT;
            }
            if ((seconds & DOWN_BIT) != 0 && leadsOn(x - 1)) {
                sides |= DOWN_BIT;
            }
            return sides;
        }

        /** Takes in a tile that agrees; answers how many loops it closes. */
        int take(int cell, int tile) {
            int x = board.column(cell);
            int line = lineSlot(board.row(cell));
            int sides = isTile(tile) ? SIDES[tile] : 0;
            openArcs(x, sides & board.firstEndsOf(cell));
            int closed = 0;
            switch (tile) {
                case 3:
                case 5:
                case 8:
                    swap(x, line);
                    break;
                case 4:
                    pair(x, line);
                    break;
                case 6:
                    closed = join(x, line);
                    break;
                case 7:
                    closed = join(x, line);
                    pair(x, line);
                    break;
                default:
                    // None, or straight on: what leads on does so in the slot where it was.
                    break;
            }
            return closed + closeArcs(x, sides & board.secondEndsOf(cell));
        }

        private void openArcs(int x, int sides) {
            if ((sides & UP_BIT) != 0) {
                pair(x, x + 1);
            }
            if ((sides & LEFT_BIT) != 0) {
                pair(board.wide, board.wide + 1);
            }
        }

        private int closeArcs(int x, int sides) {
            int closed = 0;
            if ((sides & RIGHT_BIT) != 0) {
                closed += join(board.wide, board.wide + 1);
            }
            if ((sides & DOWN_BIT) != 0) {
                closed += join(x - 1, x);
            }
            return closed;
        }

        private int join(int slot, int other) {
            int mate = mateOf(slot);
            int otherMate = mateOf(other);
            empty(slot);
            empty(other);
            if (mate == other) {
                return 1;
            }
            pair(mate, otherMate);
            return 0;
        }

        private void swap(int slot, int other) {
            int mate = mateOf(slot);
            int otherMate = mateOf(other);
            if (mate == other) {
                return;
            }
            moveEnd(mate, other);
            moveEnd(otherMate, slot);
        }

        private void moveEnd(int mate, int slot) {
            if (mate == NONE) {
                empty(slot);
            } else {
                pair(mate, slot);
            }
        }
    }

    /**
     * All moves from front to front that the cells of a board can make, whatever tiles are allowed: those of
     * a cell stand together, and among them those from one front in the order of their tiles.
     */
    private static final class Moves {
        private static final int FRONT_MASK = 127;
        private static final int TO_SHIFT = 7;
        private static final int TILE_SHIFT = 14;
        private static final int TILE_MASK = 15;
        private static final int CLOSED_SHIFT = 18;

        private final Board board;
        private final Front front;
        private final int[] starts = new int[MOST_CELLS + 1];
        private final int[] codes = new int[Front.FRONTS];
        private boolean[] reached = new boolean[Front.FRONTS];
        private boolean[] reachedNext = new boolean[Front.FRONTS];
        private int[] moves = new int[64];
        private int size;
        private int builtWide;
        private int builtHigh;
        private boolean builtArcs;

        Moves(Board itsBoard, Front aFront) {
            board = itsBoard;
            front = aFront;
        }

        /** Does nothing when they are those of such a board already. */
        void build() {
            if (builtWide == board.wide && builtHigh == board.high && builtArcs == board.arcs) {
                return;
            }
            builtWide = board.wide;
            builtHigh = board.high;
            builtArcs = board.arcs;
            size = 0;
            unreach(reached);
            reached[0] = true;
            int cells = Math.min(board.cells(), MOST_CELLS);
            for (int cell = 0; cell < cells; cell++) {
                unreach(reachedNext);
                for (int from = 0; from < Front.FRONTS; from++) {
                    if (reached[from]) {
                        addMoves(cell, from);
                    }
                }
                starts[cell + 1] = size;
                boolean[] spare = reached;
                reached = reachedNext;
                reachedNext = spare;
            }
        }

        private static void unreach(boolean[] flags) {
            for (int at = 0; at < flags.length; at++) {
                flags[at] = false;
            }
        }

        private void addMoves(int cell, int from) {
            front.unpack(codes[from]);
            int settled = front.settledSides(cell);
            int wanted = front.wantedSides(cell);
            for (int tile = 0; tile < TILES; tile++) {
                if ((SIDES[tile] & settled) == wanted) {
                    front.unpack(codes[from]);
                    int closed = front.take(cell, tile);
                    addMove(from | tile << TILE_SHIFT | closed << CLOSED_SHIFT, front.number());
                }
            }
        }

        private void addMove(int move, int to) {
            if (to < 0 || to >= Front.FRONTS) {
                return;
            }
            codes[to] = front.pack();
            reachedNext[to] = true;
            makeRoom();
            moves[size] = move | to << TO_SHIFT;
            size++;
        }

        private void makeRoom() {
            if (size < moves.length) {
                return;
            }
            int[] more = new int[2 * size + 1];
            System.arraycopy(moves, 0, more, 0, size);
            moves = more;
        }

        /** The first move of a cell; that of the cell behind it ends them. */
        int start(int cell) {
            return cell < 0 || cell > MOST_CELLS ? size : starts[cell];
        }

        private int move(int at) {
            return at < 0 || at >= moves.length ? 0 : moves[at];
        }

        int from(int at) {
            return move(at) & FRONT_MASK;
        }

        int to(int at) {
            return move(at) >> TO_SHIFT & FRONT_MASK;
        }

        int tileOf(int at) {
            return move(at) >> TILE_SHIFT & TILE_MASK;
        }

        int closes(int at) {
            return move(at) >> CLOSED_SHIFT;
        }
    }

    /**
     * In how many ways a board can be filled from a cell on, for each front and each number of loops that
     * are closed from there on.
     */
    private static final class Ways {
        /**
         * A loop without an arc has four pieces at least, one with an arc two: on 4 by 4 cells, with 32 pieces
         * and 8 arcs, that is 8 loops with an arc and 4 without. The other boards have room for fewer.
         */
        static final int MOST_LOOPS = 12;
        private static final int COUNTS = MOST_LOOPS + 1;

        private final Board board;
        private final Moves moves;
        private final int[] tops = new int[MOST_CELLS + 1];
        private long[] ways = new long[0];
        private long[] reaching = new long[Front.FRONTS];
        private long[] reachingNext = new long[Front.FRONTS];
        private int fronts;
        /** The ways from this cell on, and from all behind it, hold. */
        private int solvedFrom;

        Ways(Board itsBoard, Moves itsMoves) {
            board = itsBoard;
            moves = itsMoves;
            forget();
        }

        void forget() {
            solvedFrom = MOST_CELLS + 1;
        }

        void forgetUpTo(int cell) {
            solvedFrom = Math.max(solvedFrom, cell + 1);
        }

        long fillings(int loops) {
            return waysFrom(0, 0, loops == NONE, loops);
        }

        /** To be called ahead of all that reads ways. */
        void solve() {
            if (solvedFrom > board.cells()) {
                moves.build();
                solveEnd();
            }
            for (int cell = Math.min(solvedFrom, MOST_CELLS) - 1; cell >= 0; cell--) {
                solveCell(cell);
            }
            solvedFrom = 0;
        }

        private void solveEnd() {
            fronts = Front.joinings(board.arcs ? board.wide + 2 : board.wide + 1);
            int end = Math.min(board.cells(), MOST_CELLS);
            int room = index(end + 1, 0, 0);
            if (ways.length < room) {
                ways = new long[room];
            }
            clear(end);
            tops[end] = 0;
            // Behind the last cell no line leads on: that is the front without any, the first one.
            int none = index(end, 0, 0);
            if (none >= 0 && none < ways.length) {
                ways[none] = 1;
            }
            solvedFrom = end;
        }

        private void solveCell(int cell) {
            clear(cell);
            int most = 0;
            int end = moves.start(cell + 1);
            for (int at = moves.start(cell); at < end; at++) {
                if (board.permits(cell, moves.tileOf(at))) {
                    most = Math.max(most, moves.closes(at));
                    addWays(cell, at);
                }
            }
            tops[cell] = Math.min(MOST_LOOPS, top(cell + 1) + most);
        }

        private void addWays(int cell, int at) {
            int closed = moves.closes(at);
            int from = index(cell, moves.from(at), closed);
            int to = index(cell + 1, moves.to(at), 0);
            int last = Math.min(top(cell + 1), MOST_LOOPS - closed);
            if (from < 0 || from + last >= ways.length || to < 0 || to + last >= ways.length) {
                return;
            }
            for (int loops = 0; loops <= last; loops++) {
                ways[from + loops] += ways[to + loops];
            }
        }

        private void clear(int cell) {
            int end = Math.min(index(cell + 1, 0, 0), ways.length);
            for (int at = Math.max(index(cell, 0, 0), 0); at < end; at++) {
                ways[at] = 0;
            }
        }

        private int index(int cell, int front, int loops) {
            return (cell * fronts + front) * COUNTS + loops;
        }

        private int top(int cell) {
            return cell < 0 || cell > MOST_CELLS ? 0 : tops[cell];
        }

        private long wayAt(int at) {
            return at < 0 || at >= ways.length ? 0 : ways[at];
        }

        private long waysFrom(int cell, int front, boolean any, int loops) {
            int top = top(cell);
            if (!any) {
                return loops < 0 || loops > top ? 0 : wayAt(index(cell, front, loops));
            }
            long sum = 0;
            for (int closed = 0; closed <= top; closed++) {
                sum += wayAt(index(cell, front, closed));
            }
            return sum;
        }

        long fillingsThrough(int cell, int tile) {
            if (!board.permits(cell, tile)) {
                return 0;
            }
            reach(cell);
            long sum = 0;
            int end = moves.start(cell + 1);
            for (int at = moves.start(cell); at < end; at++) {
                int from = moves.from(at);
                if (moves.tileOf(at) == tile && from < Front.FRONTS) {
                    sum += reaching[from] * waysFrom(cell + 1, moves.to(at), true, NONE);
                }
            }
            return sum;
        }

        /** In how many ways the cells ahead of one lead to each front. */
        private void reach(int target) {
            unreach(reaching);
            reaching[0] = 1;
            for (int cell = 0; cell < target; cell++) {
                unreach(reachingNext);
                int end = moves.start(cell + 1);
                for (int at = moves.start(cell); at < end; at++) {
                    int from = moves.from(at);
                    int to = moves.to(at);
                    if (from < Front.FRONTS && to < Front.FRONTS && board.permits(cell, moves.tileOf(at))) {
                        reachingNext[to] += reaching[from];
                    }
                }
                long[] spare = reaching;
                reaching = reachingNext;
                reachingNext = spare;
            }
        }

        private static void unreach(long[] row) {
            for (int at = 0; at < row.length; at++) {
                row[at] = 0;
            }
        }

        /** Lays the filling of a rank that there is. */
        void choose(Sheet sheet, int loops, long rank) {
            int cells = board.cells();
            boolean any = loops == NONE;
            long skip = rank;
            int due = loops;
            int front = 0;
            for (int cell = 0; cell < cells; cell++) {
                int end = moves.start(cell + 1);
                for (int at = moves.start(cell); at < end; at++) {
                    if (moves.from(at) != front || !board.permits(cell, moves.tileOf(at))) {
                        continue;
                    }
                    int rest = due - moves.closes(at);
                    long here = waysFrom(cell + 1, moves.to(at), any, rest);
                    if (skip < here) {
                        sheet.lay(cell, moves.tileOf(at));
                        front = moves.to(at);
                        due = rest;
                        break;
                    }
                    skip -= here;
                }
            }
        }

        /** How many fillings, of those with so many loops (or of all), are ahead of the one on the sheet. */
        long ahead(Sheet sheet, int loops) {
            int cells = board.cells();
            boolean any = loops == NONE;
            long sum = 0;
            int due = loops;
            int front = 0;
            for (int cell = 0; cell < cells; cell++) {
                int laid = sheet.at(cell);
                int end = moves.start(cell + 1);
                for (int at = moves.start(cell); at < end; at++) {
                    int tile = moves.tileOf(at);
                    if (moves.from(at) != front || tile > laid || !board.permits(cell, tile)) {
                        continue;
                    }
                    int rest = due - moves.closes(at);
                    if (tile == laid) {
                        front = moves.to(at);
                        due = rest;
                        break;
                    }
                    sum += waysFrom(cell + 1, moves.to(at), any, rest);
                }
            }
            return sum;
        }
    }

    /** A tile for each cell; its pieces are numbered: cell by cell, two numbers for each. */
    private static final class Sheet {
        private static final int MOST_PIECES = 2 * MOST_CELLS;

        private final Board board;
        private final Front front;
        private final int[] tiles = new int[MOST_CELLS];
        private final boolean[] met = new boolean[MOST_PIECES];
        private int closed;

        Sheet(Board itsBoard, Front aFront) {
            board = itsBoard;
            front = aFront;
        }

        void blank() {
            for (int cell = 0; cell < MOST_CELLS; cell++) {
                tiles[cell] = 0;
            }
        }

        int at(int cell) {
            return board.has(cell) ? tiles[cell] : NONE;
        }

        void lay(int cell, int tile) {
            if (board.has(cell) && isTile(tile)) {
                tiles[cell] = tile;
            }
        }

        int firstMisfit() {
            int cells = board.cells();
            front.clear();
            closed = 0;
            for (int cell = 0; cell < cells; cell++) {
                int tile = at(cell);
                if (!board.permits(cell, tile) || !front.agrees(cell, tile)) {
                    return cell;
                }
                closed += front.take(cell, tile);
            }
            return cells;
        }

        boolean isFilling() {
            return firstMisfit() == board.cells();
        }

        /** The loops that were closed when the sheet was last found to be a filling. */
        int closedLoops() {
            return closed;
        }

        int pieceAt(int cell, int piece) {
            int tile = at(cell);
            if (piece < 0 || piece > 1 || !isTile(tile) || LAST_SIDE[2 * tile + piece] == NONE) {
                return NONE;
            }
            return 2 * cell + piece;
        }

        void forgetMet() {
            for (int piece = 0; piece < MOST_PIECES; piece++) {
                met[piece] = false;
            }
        }

        boolean hasMet(int piece) {
            return piece >= 0 && piece < MOST_PIECES && met[piece];
        }

        /** How many pieces the loop of a piece has; it meets them all. */
        int follow(int start) {
            int piece = start;
            int pieces = 0;
            int side = lastSide(start);
            while (pieces < MOST_PIECES && piece >= 0 && piece < MOST_PIECES) {
                met[piece] = true;
                pieces++;
                int cell = piece / 2;
                int entry = board.atBorder(cell, side) ? side : opposite(side);
                int next = board.beyond(cell, side);
                piece = pieceOf(next, entry);
                side = otherSide(next, entry);
                if (piece == start) {
                    break;
                }
            }
            return pieces;
        }

        private static int opposite(int side) {
            return side ^ 2;
        }

        private int lastSide(int piece) {
            int tile = piece < 0 ? NONE : at(piece / 2);
            return isTile(tile) ? LAST_SIDE[2 * tile + (piece & 1)] : NONE;
        }

        private int otherSide(int cell, int side) {
            int tile = at(cell);
            return isTile(tile) && side >= UP && side <= LEFT ? OTHER_SIDE[4 * tile + side] : NONE;
        }

        /** The piece of a cell that ends at a side. */
        private int pieceOf(int cell, int side) {
            int first = lastSide(2 * cell);
            if (first == NONE || side == NONE) {
                return NONE;
            }
            boolean isFirst = side == first || side == otherSide(cell, first);
            return isFirst ? 2 * cell : 2 * cell + 1;
        }

        int greatestLength() {
            int cells = board.cells();
            forgetMet();
            int greatest = 0;
            for (int cell = 0; cell < cells; cell++) {
                for (int piece = 0; piece < 2; piece++) {
                    int start = pieceAt(cell, piece);
                    if (start != NONE && !hasMet(start)) {
                        greatest = Math.max(greatest, follow(start));
                    }
                }
            }
            return greatest;
        }
    }
}
