import java.util.ArrayList;
import java.util.Arrays;

/**
 * Walled gardens paved by bent triples around one pond.
 *
 * <p>The document ../shared/DOC.md says what each public method promises. Inside, the cell (x, y) has
 * the place 8 * y + x in a garden of any size, so that a set of cells is one long with a bit a place.
 */
public final class BentGardens {
    /** There is nothing to return. */
    public static final int NONE = -1;

    private static final int LEAST_SIDE = 2;
    private static final int MOST_SIDE = 8;
    private static final int PLACES = MOST_SIDE * MOST_SIDE;
    private static final int TURNS = 4;
    private static final int PROPERTIES = 3;
    private static final int COUNTS = 12;
    private static final int MOST_TRIPLES = 21;
    private static final int MOST_SAVED = 6;
    private static final int LEAST_CODE = 33;
    private static final int MOST_CODE = 126;
    private static final long HASH_START = 3181L;

    /** For each turn the cells of the triple whose block begins at the place 0. */
    private static final long[] SHAPES = {0x302L, 0x301L, 0x103L, 0x203L};

    private final ArrayList<Garden> saved = new ArrayList<Garden>();
    private final Garden[] slots = new Garden[2];
    private final Buffer buffer = new Buffer();
    private final Paver paver = new Paver();
    private Garden now = new Garden();

    public BentGardens() {
    }

    // ---- gardens

    public int garden(int wide, int high) throws IllegalArgumentException {
        if (!isSide(wide) || !isSide(high)) {
            throw new IllegalArgumentException("a side is not 2 to 8");
        }
        saveState();
        now.layOut(wide, high, 0, 0L);
        return wide * high;
    }

    public int pond(int x, int y) throws IndexOutOfBoundsException, IllegalStateException {
        requireCell(x, y);
        long cell = cellAt(x, y);
        if ((cell & (now.walls | now.paved)) != 0) {
            throw new IllegalStateException("the cell is walled or paved");
        }
        saveState();
        int before = now.pondPlace;
        now.pondPlace = placeOf(x, y);
        return cellName(before);
    }

    public int wall(int x, int y) throws IndexOutOfBoundsException, IllegalStateException {
        requireCell(x, y);
        long cell = cellAt(x, y);
        if ((cell & (now.pondCell() | now.paved)) != 0) {
            throw new IllegalStateException("the cell is the pond or paved");
        }
        saveState();
        now.walls ^= cell;
        return Long.bitCount(now.walls);
    }

    // ---- triples

    public int lay(int x, int y, int turn) throws IllegalArgumentException {
        requireTurn(turn);
        saveState();
        int reason = now.whyRefused(x, y, turn);
        if (reason == 0) {
            now.putTriple(x, y, turn);
        } else {
            now.refused++;
        }
        return reason;
    }

    public int lift(int x, int y) throws IndexOutOfBoundsException, IllegalStateException {
        requireCell(x, y);
        int number = now.tripleOver(cellAt(x, y));
        if (number == NONE) {
            throw new IllegalStateException("no triple covers the cell");
        }
        saveState();
        now.takeTriple(number);
        return number;
    }

    public int flip(int x, int y, boolean isHigh) throws IndexOutOfBoundsException, IllegalStateException {
        if (!now.hasFlipBlock(x, y, isHigh)) {
            throw new IndexOutOfBoundsException("the block is not wholly in the garden");
        }
        if (!now.isFlippable(x, y, isHigh)) {
            throw new IllegalStateException("the block is not covered by two triples");
        }
        saveState();
        now.flipBlock(x, y, isHigh);
        return now.flips;
    }

    public int fill() throws IllegalStateException {
        if (paver.waysToPave(now.freeCells()) == 0) {
            throw new IllegalStateException("there is no way");
        }
        saveState();
        int before = now.tripleCount;
        paver.paveFirstWay(now);
        return now.tripleCount - before;
    }

    public int halve() throws IllegalStateException {
        if (!now.isHalvable()) {
            throw new IllegalStateException("the garden cannot be paved by squares");
        }
        saveState();
        now.paveSquares();
        return now.tripleCount;
    }

    // ---- texts, snapshots

    public int append(int code) throws IllegalArgumentException, IllegalStateException {
        if (code < LEAST_CODE || code > MOST_CODE) {
            throw new IllegalArgumentException("code is not 33 to 126");
        }
        if (buffer.isFull()) {
            throw new IllegalStateException("the buffer is full");
        }
        buffer.add(code);
        return buffer.length;
    }

    public int clearBuffer() {
        int before = buffer.length;
        buffer.length = 0;
        return before;
    }

    public int firstError() {
        return buffer.readInto(new Reader());
    }

    public int load() throws IllegalArgumentException {
        Reader reader = new Reader();
        if (buffer.readInto(reader) < buffer.length || !reader.isWhole()) {
            throw new IllegalArgumentException("the buffer does not tell a garden");
        }
        saveState();
        now.layOut(reader.wide, reader.row + 1, reader.pondPlace, reader.walls);
        buffer.length = 0;
        return Long.bitCount(now.freeCells());
    }

    public int keep(int slot) throws IllegalArgumentException {
        requireSlot(slot);
        slots[slot] = now.copied();
        return now.tripleCount;
    }

    public int goBack(int slot) throws IllegalArgumentException, IllegalStateException {
        requireSlot(slot);
        Garden snapshot = slots[slot];
        if (snapshot == null) {
            throw new IllegalStateException("there is no snapshot in the slot");
        }
        saveState();
        now = snapshot.copied();
        return now.tripleCount;
    }

    public int undo() throws IllegalStateException {
        int latest = saved.size() - 1;
        if (latest < 0) {
            throw new IllegalStateException("no state is saved");
        }
        now = saved.get(latest);
        saved.remove(latest);
        return latest;
    }

    // ---- looks; nothing is changed

    public int cell(int x, int y, int what) throws IndexOutOfBoundsException, IllegalArgumentException {
        requireCell(x, y);
        requireProperty(what);
        if (what == 0) {
            return now.kindOf(cellAt(x, y));
        }
        return what == 1 ? now.tripleOver(cellAt(x, y)) : now.coverCount(placeOf(x, y));
    }

    public int triple(int triple, int what) throws IndexOutOfBoundsException, IllegalArgumentException {
        if (triple < 0 || triple >= now.tripleCount) {
            throw new IndexOutOfBoundsException("there is no such triple");
        }
        requireProperty(what);
        int name = now.tripleName(triple);
        if (what == 0) {
            return columnOf(name);
        }
        return what == 1 ? rowOf(name) : turnOf(name);
    }

    public int row(int y, int what) throws IndexOutOfBoundsException, IllegalArgumentException {
        if (y < 0 || y >= now.high) {
            throw new IndexOutOfBoundsException("there is no such row");
        }
        requireProperty(what);
        if (what == 0) {
            return rowMask(now.freeCells(), y);
        }
        return rowMask(what == 1 ? now.walls : now.paved, y);
    }

    public int count(int what) throws IllegalArgumentException {
        switch (what) {
            case 0:
                return now.wide;
            case 1:
                return now.high;
            case 2:
                return now.pondPlace % MOST_SIDE;
            case 3:
                return now.pondPlace / MOST_SIDE;
            case 4:
                return Long.bitCount(now.walls);
            case 5:
                return now.tripleCount;
            case 6:
                return Long.bitCount(now.freeCells());
            case 7:
                return now.layableTriples();
            case 8:
                return now.flippableBlocks();
            case 9:
                return now.flips;
            case 10:
                return now.refused;
            case 11:
                return saved.size();
            default:
                throw new IllegalArgumentException("what is not 0 to 11");
        }
    }

    // ---- what would be; nothing is changed

    public int whyNot(int x, int y, int turn) throws IllegalArgumentException {
        requireTurn(turn);
        return now.whyRefused(x, y, turn);
    }

    public int ways() {
        return paver.waysToPave(now.freeCells());
    }

    public int waysWith(int x, int y, int turn) throws IllegalArgumentException {
        requireTurn(turn);
        if (now.whyRefused(x, y, turn) != 0) {
            return NONE;
        }
        return paver.waysToPave(now.freeCells() & ~cellsOf(x, y, turn));
    }

    public int forced(int what) throws IllegalArgumentException {
        if (what != 0 && what != 1) {
            throw new IllegalArgumentException("what is not 0 or 1");
        }
        int place = now.firstFreeWith(1);
        if (place == NONE) {
            return NONE;
        }
        return what == 0 ? cellName(place) : now.firstCover(place);
    }

    public int lonely() {
        int place = now.firstFreeWith(0);
        return place == NONE ? NONE : cellName(place);
    }

    public int bestPond() {
        int place = paver.bestGap(now.freeCells() | now.pondCell());
        return place == NONE ? NONE : cellName(place);
    }

    public double pavedShare() {
        int paved = Long.bitCount(now.paved);
        int both = paved + Long.bitCount(now.freeCells());
        return both == 0 ? 1.0 : (double) paved / both;
    }

    public long digest() {
        long hash = HASH_START;
        for (int what = 0; what < COUNTS; what++) {
            hash = mixed(hash, count(what));
        }
        hash = mixedTriples(mixedCells(mixedRows(hash)));
        hash = mixed(hash, ways());
        // The blocks at (0, 0), (1, 1) and (2, 0), as the document lists them.
        for (int x = 0; x < 3; x++) {
            for (int turn = 0; turn < TURNS; turn++) {
                hash = mixed(hash, waysWith(x, x % 2, turn));
            }
        }
        hash = mixed(mixed(hash, forced(0)), forced(1));
        hash = mixed(mixed(hash, lonely()), shareBits(pavedShare()));
        return mixedBuffer(mixedSlots(hash));
    }

    // ---- the parts of the digest

    private static long mixed(long hash, long value) {
        return 31L * hash + value;
    }

    private long mixedRows(long before) {
        long hash = before;
        for (int y = 0; y < now.high; y++) {
            for (int what = 0; what < PROPERTIES; what++) {
                hash = mixed(hash, row(y, what));
            }
        }
        return hash;
    }

    private long mixedCells(long before) {
        long hash = before;
        for (int y = 0; y < now.high; y++) {
            for (int x = 0; x < now.wide; x++) {
                hash = mixed(mixed(hash, cell(x, y, 1)), cell(x, y, 2));
            }
        }
        return hash;
    }

    private long mixedTriples(long before) {
        long hash = before;
        for (int number = 0; number < now.tripleCount; number++) {
            for (int what = 0; what < PROPERTIES; what++) {
                hash = mixed(hash, triple(number, what));
            }
        }
        return hash;
    }

    private long mixedSlots(long before) {
        long hash = before;
        for (int slot = 0; slot < slots.length; slot++) {
            hash = mixed(hash, slots[slot] == null ? 0 : 1);
        }
        return hash;
    }

    private long mixedBuffer(long before) {
        long hash = mixed(before, buffer.length);
        for (int index = 0; index < buffer.length; index++) {
            hash = mixed(hash, buffer.codeAt(index));
        }
        return hash;
    }

    /** The bits of a share from 0.0 to 1.0, found by arithmetic: LANGUAGE.md leaves no Double. */
    private static long shareBits(double share) {
        if (share <= 0.0) {
            return 0L;
        }
        double scaled = share;
        long exponent = 1023L;
        for (int step = 0; step < 1022 && scaled < 1.0; step++) {
            scaled = scaled * 2.0;
            exponent--;
        }
        return (exponent << 52) + (long) ((scaled - 1.0) * 4503599627370496.0);
    }

    // ---- what the calls ask first

    private static boolean isSide(int length) {
        return length >= LEAST_SIDE && length <= MOST_SIDE;
    }

    private void requireCell(int x, int y) {
        if (!now.hasBlock(x, y, 1, 1)) {
            throw new IndexOutOfBoundsException("there is no such cell");
        }
    }

    private static void requireTurn(int turn) {
        if (turn < 0 || turn >= TURNS) {
            throw new IllegalArgumentException("turn is not 0 to 3");
        }
    }

    private static void requireProperty(int what) {
        if (what < 0 || what >= PROPERTIES) {
            throw new IllegalArgumentException("what is not 0 to 2");
        }
    }

    private void requireSlot(int slot) {
        if (slot < 0 || slot >= slots.length) {
            throw new IllegalArgumentException("slot is not 0 or 1");
        }
    }

    private void saveState() {
        if (saved.size() >= MOST_SAVED) {
            saved.remove(0);
        }
        saved.add(now.copied());
    }

    // ---- places, sets of cells and names

    private static int placeOf(int x, int y) {
        return MOST_SIDE * y + x;
    }

    private static long cellAt(int x, int y) {
        return 1L << placeOf(x, y);
    }

    private static boolean holds(long cells, int place) {
        return (cells >>> place & 1L) != 0;
    }

    private static int rowMask(long cells, int y) {
        return (int) (cells >>> MOST_SIDE * y & 0xFFL);
    }

    /** The cells that a triple covers; none if its block leaves the widest garden. */
    private static long cellsOf(int x, int y, int turn) {
        int last = MOST_SIDE - 2;
        if (x < 0 || x > last || y < 0 || y > last || turn < 0 || turn >= SHAPES.length) {
            return 0L;
        }
        return SHAPES[turn] << (MOST_SIDE * y + x);
    }

    /** A cell as the answers tell it. */
    private static int cellName(int place) {
        return place % MOST_SIDE + 10 * (place / MOST_SIDE);
    }

    /** A triple as forced() tells it; triples are also held so. */
    private static int nameOf(int x, int y, int turn) {
        return x + 10 * y + 100 * turn;
    }

    private static int columnOf(int name) {
        return name % 10;
    }

    private static int rowOf(int name) {
        return name / 10 % 10;
    }

    private static int turnOf(int name) {
        return name / 100;
    }

    /** All that a snapshot holds: the garden, its triples and what is counted so far. */
    private static final class Garden {
        int wide = 4;
        int high = 4;
        int pondPlace = 0;
        long walls = 0L;
        long paved = 0L;
        int tripleCount = 0;
        int flips = 0;
        int refused = 0;
        private final int[] names = new int[MOST_TRIPLES];

        Garden copied() {
            Garden copy = new Garden();
            copy.wide = wide;
            copy.high = high;
            copy.pondPlace = pondPlace;
            copy.walls = walls;
            copy.paved = paved;
            copy.tripleCount = tripleCount;
            copy.flips = flips;
            copy.refused = refused;
            System.arraycopy(names, 0, copy.names, 0, MOST_TRIPLES);
            return copy;
        }

        /** Begins another garden; what is counted so far goes on. */
        void layOut(int newWide, int newHigh, int newPondPlace, long newWalls) {
            wide = newWide;
            high = newHigh;
            pondPlace = newPondPlace;
            walls = newWalls;
            paved = 0L;
            tripleCount = 0;
        }

        boolean hasBlock(int x, int y, int blockWide, int blockHigh) {
            return x >= 0 && y >= 0 && x <= wide - blockWide && y <= high - blockHigh;
        }

        long pondCell() {
            return 1L << pondPlace;
        }

        long freeCells() {
            return blockCells(0, 0, wide, high) & ~(walls | paved | pondCell());
        }

        private static long blockCells(int x, int y, int blockWide, int blockHigh) {
            long cells = 0L;
            for (int row = 0; row < blockHigh; row++) {
                cells |= ((1L << blockWide) - 1L) << placeOf(x, y + row);
            }
            return cells;
        }

        int kindOf(long cell) {
            if ((cell & pondCell()) != 0) {
                return 1;
            }
            if ((cell & walls) != 0) {
                return 2;
            }
            return (cell & paved) != 0 ? 3 : 0;
        }

        /** The reason why a triple is refused; 0 if it is not. */
        int whyRefused(int x, int y, int turn) {
            if (!hasBlock(x, y, 2, 2)) {
                return 1;
            }
            long cells = cellsOf(x, y, turn);
            if ((cells & pondCell()) != 0) {
                return 2;
            }
            if ((cells & walls) != 0) {
                return 3;
            }
            return (cells & paved) != 0 ? 4 : 0;
        }

        void putTriple(int x, int y, int turn) {
            if (tripleCount < names.length) {
                names[tripleCount] = nameOf(x, y, turn);
                tripleCount++;
                paved |= cellsOf(x, y, turn);
            }
        }

        void takeTriple(int number) {
            if (number < 0 || number >= tripleCount) {
                return;
            }
            paved &= ~tripleCells(number);
            tripleCount--;
            for (int index = number; index < tripleCount && index + 1 < names.length; index++) {
                names[index] = names[index + 1];
            }
        }

        int tripleName(int number) {
            return number >= 0 && number < tripleCount && number < names.length ? names[number] : 0;
        }

        private long tripleCells(int number) {
            int name = tripleName(number);
            return cellsOf(columnOf(name), rowOf(name), turnOf(name));
        }

        int tripleOver(long cell) {
            for (int number = 0; number < tripleCount; number++) {
                if ((tripleCells(number) & cell) != 0) {
                    return number;
                }
            }
            return NONE;
        }

        int layableTriples() {
            int layable = 0;
            for (int y = 0; y < high; y++) {
                for (int x = 0; x < wide; x++) {
                    for (int turn = 0; turn < TURNS; turn++) {
                        layable += whyRefused(x, y, turn) == 0 ? 1 : 0;
                    }
                }
            }
            return layable;
        }

        // ---- the triples that could cover a cell: four turns in each of four blocks

        private static int coverX(int place, int choice) {
            return place % MOST_SIDE - choice % 2;
        }

        private static int coverY(int place, int choice) {
            return place / MOST_SIDE - choice / 2 % 2;
        }

        private boolean couldCover(int place, int choice) {
            int x = coverX(place, choice);
            int y = coverY(place, choice);
            int turn = choice / 4;
            return whyRefused(x, y, turn) == 0 && holds(cellsOf(x, y, turn), place);
        }

        int coverCount(int place) {
            int covers = 0;
            for (int choice = 0; choice < 4 * TURNS; choice++) {
                covers += couldCover(place, choice) ? 1 : 0;
            }
            return covers;
        }

        /** The name of a triple that could cover a cell; NONE if there is none. */
        int firstCover(int place) {
            for (int choice = 0; choice < 4 * TURNS; choice++) {
                if (couldCover(place, choice)) {
                    return nameOf(coverX(place, choice), coverY(place, choice), choice / 4);
                }
            }
            return NONE;
        }

        /** The place of the first free cell that just so many triples could cover. */
        int firstFreeWith(int covers) {
            long free = freeCells();
            for (int place = 0; place < PLACES; place++) {
                if (holds(free, place) && coverCount(place) == covers) {
                    return place;
                }
            }
            return NONE;
        }

        // ---- flips

        boolean hasFlipBlock(int x, int y, boolean isHigh) {
            return hasBlock(x, y, isHigh ? 2 : 3, isHigh ? 3 : 2);
        }

        /** Of two triples that cover such a block, one has its first cell and the other its last one. */
        boolean isFlippable(int x, int y, boolean isHigh) {
            int first = tripleOver(cellAt(x, y));
            int second = tripleOver(lastFlipCell(x, y, isHigh));
            if (first == NONE || second == NONE) {
                return false;
            }
            long block = blockCells(x, y, isHigh ? 2 : 3, isHigh ? 3 : 2);
            return (tripleCells(first) | tripleCells(second)) == block;
        }

        private static long lastFlipCell(int x, int y, boolean isHigh) {
            return isHigh ? cellAt(x + 1, y + 2) : cellAt(x + 2, y + 1);
        }

        /**
         * The first triple of a high block has the turn 2 or 3, that of a wide one 1 or 2, and the
         * other triple is the first one turned by a half.
         */
        void flipBlock(int x, int y, boolean isHigh) {
            int first = tripleOver(cellAt(x, y));
            int second = tripleOver(lastFlipCell(x, y, isHigh));
            int turn = (isHigh ? 5 : 3) - turnOf(tripleName(first));
            takeTriple(Math.max(first, second));
            takeTriple(Math.min(first, second));
            putTriple(x, y, turn);
            putTriple(isHigh ? x : x + 1, isHigh ? y + 1 : y, (turn + 2) % TURNS);
            flips++;
        }

        int flippableBlocks() {
            int blocks = 0;
            for (int y = 0; y < high; y++) {
                for (int x = 0; x < wide; x++) {
                    blocks += hasFlipBlock(x, y, true) && isFlippable(x, y, true) ? 1 : 0;
                    blocks += hasFlipBlock(x, y, false) && isFlippable(x, y, false) ? 1 : 0;
                }
            }
            return blocks;
        }

        // ---- squares

        boolean isHalvable() {
            boolean isHalvableSide = wide == 2 || wide == 4 || wide == 8;
            return isHalvableSide && wide == high && walls == 0 && tripleCount == 0;
        }

        void paveSquares() {
            paveSquare(this, 0, 0, wide, pondPlace);
        }

        /** The size halves from 8 at most, so four squares at most stand open at once. */
        private static void paveSquare(Garden garden, int x, int y, int size, int squarePond) {
            if (size < LEAST_SIDE || size > MOST_SIDE) {
                return;
            }
            int half = size / 2;
            boolean isRight = squarePond % MOST_SIDE >= x + half;
            boolean isLow = squarePond / MOST_SIDE >= y + half;
            int middleX = x + half - 1;
            int middleY = y + half - 1;
            garden.putTriple(middleX, middleY, quarterTurn(isRight, isLow));
            for (int quarter = 0; quarter < 4; quarter++) {
                int right = quarter % 2;
                int low = quarter / 2;
                boolean hasPond = isRight == (right == 1) && isLow == (low == 1);
                int quarterPond = hasPond ? squarePond : placeOf(middleX + right, middleY + low);
                paveSquare(garden, x + half * right, y + half * low, half, quarterPond);
            }
        }

        /** The turn that leaves this quarter of a block out. */
        private static int quarterTurn(boolean isRight, boolean isLow) {
            if (isLow) {
                return isRight ? 2 : 3;
            }
            return isRight ? 1 : 0;
        }
    }

    /**
     * Counts ways to pave a set of free cells, place by place. A triple whose first cell is at a place
     * reaches at most nine places on; so what is taken by the triples before a place is told by a
     * window of nine bits, the bit 0 for the place itself.
     */
    private static final class Paver {
        static final int WINDOWS = 512;
        private static final int LAST_WINDOW = WINDOWS - 1;

        /** For each place and window, the ways to pave what is free from the place on. */
        private final int[][] rest = new int[PLACES + 1][WINDOWS];
        /** For each turn, the places that its triple takes, from the place of its first cell on. */
        private final int[] takes = new int[TURNS];
        private Reached here = new Reached();
        private Reached next = new Reached();

        int waysToPave(long free) {
            if (Long.bitCount(free) % 3 != 0) {
                return 0;
            }
            begin();
            int end = endOf(free);
            for (int place = Long.numberOfTrailingZeros(free); place < end; place++) {
                goOn(free, place);
            }
            return here.waysTo(0);
        }

        /** The place after the last free cell: there the ways end. */
        private static int endOf(long free) {
            return PLACES - Long.numberOfLeadingZeros(free);
        }

        // ---- from the first place on: the ways that reach a window

        private void begin() {
            here.clear();
            here.add(0, 1);
        }

        private void goOn(long free, int place) {
            boolean isFree = holds(free, place);
            if (isFree) {
                findTakes(free, place);
            }
            next.clear();
            for (int index = 0; index < here.size; index++) {
                int window = here.windowAt(index);
                if (isFree && (window & 1) == 0) {
                    goOnByTurns(window);
                } else {
                    next.add(window >> 1, here.waysTo(window));
                }
            }
            Reached before = here;
            here = next;
            next = before;
        }

        private void goOnByTurns(int window) {
            for (int turn = 0; turn < TURNS; turn++) {
                if (isOpen(turn, window)) {
                    next.add(windowAfter(turn, window), here.waysTo(window));
                }
            }
        }

        private void findTakes(long free, int place) {
            for (int turn = 0; turn < TURNS; turn++) {
                long cells = cellsOf(blockColumn(place, turn), place / MOST_SIDE, turn);
                boolean isIn = (cells & ~free) == 0;
                takes[turn] = isIn ? (int) (cells >>> place) : 0;
            }
        }

        /** The column of the block of the triple that has its first cell at a place. */
        private static int blockColumn(int place, int turn) {
            return turn == 0 ? place % MOST_SIDE - 1 : place % MOST_SIDE;
        }

        private boolean isOpen(int turn, int window) {
            return takes[turn] != 0 && (takes[turn] & window) == 0;
        }

        private int windowAfter(int turn, int window) {
            return (takes[turn] | window) >> 1 & LAST_WINDOW;
        }

        // ---- from the last place back: the ways to pave what is free from a window on

        private void countRest(long free) {
            int end = endOf(free);
            int[] restAtEnd = restOf(end);
            Arrays.fill(restAtEnd, 0);
            restAtEnd[0] = 1;
            for (int place = end - 1; place >= 0; place--) {
                findTakes(free, place);
                countPlace(holds(free, place), restOf(place), restOf(place + 1));
            }
        }

        private int[] restOf(int place) {
            return rest[Math.max(0, Math.min(place, PLACES))];
        }

        private void countPlace(boolean isFree, int[] restHere, int[] restNext) {
            for (int window = 0; window < WINDOWS; window++) {
                if (isFree && (window & 1) == 0) {
                    restHere[window] = countTurns(window, restNext);
                } else {
                    restHere[window] = restNext[window >> 1];
                }
            }
        }

        private int countTurns(int window, int[] restNext) {
            int ways = 0;
            for (int turn = 0; turn < TURNS; turn++) {
                if (isOpen(turn, window)) {
                    ways += restNext[windowAfter(turn, window)];
                }
            }
            return ways;
        }

        private int restFrom(int place, int window) {
            return window >= 0 && window < WINDOWS ? restOf(place)[window] : 0;
        }

        /** Lays the first way into a garden, which has one. */
        void paveFirstWay(Garden garden) {
            long free = garden.freeCells();
            countRest(free);
            int end = endOf(free);
            int window = 0;
            for (int place = 0; place < end; place++) {
                findTakes(free, place);
                int turn = leastTurn(place, window);
                if (turn == NONE) {
                    window = window >> 1;
                } else {
                    garden.putTriple(blockColumn(place, turn), place / MOST_SIDE, turn);
                    window = windowAfter(turn, window);
                }
            }
        }

        /** NONE at a place that is not free, or already taken: no triple of the first way begins there. */
        private int leastTurn(int place, int window) {
            for (int turn = 0; turn < TURNS; turn++) {
                if (isOpen(turn, window) && restFrom(place + 1, windowAfter(turn, window)) != 0) {
                    return turn;
                }
            }
            return NONE;
        }

        /**
         * The first place of these cells that, left out, leaves most ways to pave the others; NONE if
         * none leaves any. The ways that leave a place out are those that reach it, times those on.
         */
        int bestGap(long cells) {
            countRest(cells);
            begin();
            int best = NONE;
            int most = 0;
            int end = endOf(cells);
            for (int place = 0; place < end; place++) {
                int ways = holds(cells, place) ? waysAround(place) : 0;
                if (ways > most) {
                    most = ways;
                    best = place;
                }
                goOn(cells, place);
            }
            return best;
        }

        private int waysAround(int place) {
            int ways = 0;
            for (int index = 0; index < here.size; index++) {
                int window = here.windowAt(index);
                if ((window & 1) == 0) {
                    ways += here.waysTo(window) * restFrom(place + 1, window >> 1);
                }
            }
            return ways;
        }
    }

    /** The windows that are reached at a place, with the ways to each; all others have none. */
    private static final class Reached {
        int size = 0;
        private final int[] windows = new int[Paver.WINDOWS];
        private final int[] ways = new int[Paver.WINDOWS];

        void clear() {
            for (int index = 0; index < size; index++) {
                ways[windowAt(index)] = 0;
            }
            size = 0;
        }

        void add(int window, int more) {
            if (window < 0 || window >= ways.length) {
                return;
            }
            if (ways[window] == 0 && size < windows.length) {
                windows[size] = window;
                size++;
            }
            ways[window] += more;
        }

        int windowAt(int index) {
            return index >= 0 && index < windows.length ? windows[index] : 0;
        }

        int waysTo(int window) {
            return window >= 0 && window < ways.length ? ways[window] : 0;
        }
    }

    /** The characters that are appended. */
    private static final class Buffer {
        int length = 0;
        private final int[] codes = new int[MOST_SIDE * MOST_SIDE + MOST_SIDE - 1];

        boolean isFull() {
            return length >= codes.length;
        }

        void add(int code) {
            if (length < codes.length) {
                codes[length] = code;
                length++;
            }
        }

        int codeAt(int index) {
            return index >= 0 && index < length && index < codes.length ? codes[index] : 0;
        }

        /** Has the reader read up to the first syntax error; its index, or the length without one. */
        int readInto(Reader reader) {
            for (int index = 0; index < length; index++) {
                if (!reader.isNext(codeAt(index))) {
                    return index;
                }
                reader.take(codeAt(index));
            }
            return length;
        }
    }

    /** Reads a garden as a text, a character after the other. */
    private static final class Reader {
        /** How wide the rows are; in the first row, how wide it may become. */
        int wide = MOST_SIDE;
        int row = 0;
        int pondPlace = NONE;
        long walls = 0L;
        private int column = 0;

        /** Whether a garden as a text begins with what was taken and this character. */
        boolean isNext(int code) {
            if (code == '/') {
                return isRowWhole() && row + 1 < MOST_SIDE;
            }
            if (column >= wide) {
                return false;
            }
            if (code == 'o') {
                return pondPlace == NONE;
            }
            return (code == '.' || code == '#') && !isLastForPond();
        }

        private boolean isRowWhole() {
            return row == 0 ? column >= LEAST_SIDE : column == wide;
        }

        /** Behind the last cell of the eighth row no pond can come any more. */
        private boolean isLastForPond() {
            return pondPlace == NONE && row + 1 == MOST_SIDE && column + 1 == wide;
        }

        void take(int code) {
            if (code == '/') {
                wide = row == 0 ? column : wide;
                row++;
                column = 0;
                return;
            }
            if (code == 'o') {
                pondPlace = placeOf(column, row);
            }
            if (code == '#') {
                walls |= cellAt(column, row);
            }
            column++;
        }

        boolean isWhole() {
            return row + 1 >= LEAST_SIDE && isRowWhole() && pondPlace != NONE;
        }
    }
}
