import java.util.ArrayDeque;
import java.util.ArrayList;
import java.util.Arrays;
import java.util.HashMap;
import java.util.List;
import java.util.Map;

/** The document told again in the plainest way, to compare answers with; it shares nothing with the class. */
final class NaiveGardens {
    private static final class State {
        int wide = 4;
        int high = 4;
        int pondX;
        int pondY;
        boolean[][] isWalled = new boolean[8][8];
        List<int[]> triples = new ArrayList<>();
        int flips;
        int refused;

        State copy() {
            State copy = new State();
            copy.wide = wide;
            copy.high = high;
            copy.pondX = pondX;
            copy.pondY = pondY;
            for (int y = 0; y < 8; y++) {
                copy.isWalled[y] = isWalled[y].clone();
            }
            copy.triples = new ArrayList<>(triples);
            copy.flips = flips;
            copy.refused = refused;
            return copy;
        }
    }

    private State now = new State();
    private final ArrayDeque<State> saved = new ArrayDeque<>();
    private final State[] slots = new State[2];
    private final StringBuilder buffer = new StringBuilder();

    private void save() {
        saved.addLast(now.copy());
        if (saved.size() > 6) {
            saved.removeFirst();
        }
    }

    private boolean isCell(int x, int y) {
        return x >= 0 && y >= 0 && x < now.wide && y < now.high;
    }

    private void needCell(int x, int y) {
        if (!isCell(x, y)) {
            throw new IndexOutOfBoundsException();
        }
    }

    private static void need(boolean isInRange) {
        if (!isInRange) {
            throw new IllegalArgumentException();
        }
    }

    private static void needState(boolean isRight) {
        if (!isRight) {
            throw new IllegalStateException();
        }
    }

    /** The cells of a triple as {x, y} pairs; the block's cells go round as the turns do. */
    private static List<int[]> cellsOf(int x, int y, int turn) {
        int[][] round = {{x, y}, {x + 1, y}, {x + 1, y + 1}, {x, y + 1}};
        List<int[]> cells = new ArrayList<>();
        for (int corner = 0; corner < 4; corner++) {
            if (corner != turn) {
                cells.add(round[corner]);
            }
        }
        return cells;
    }

    private static boolean covers(int[] triple, int x, int y) {
        for (int[] cell : cellsOf(triple[0], triple[1], triple[2])) {
            if (cell[0] == x && cell[1] == y) {
                return true;
            }
        }
        return false;
    }

    private int numberAt(int x, int y) {
        for (int number = 0; number < now.triples.size(); number++) {
            if (covers(now.triples.get(number), x, y)) {
                return number;
            }
        }
        return -1;
    }

    private boolean isFree(int x, int y) {
        return isCell(x, y) && kind(x, y) == 0;
    }

    private int kind(int x, int y) {
        if (x == now.pondX && y == now.pondY) {
            return 1;
        }
        if (now.isWalled[y][x]) {
            return 2;
        }
        return numberAt(x, y) >= 0 ? 3 : 0;
    }

    private int freeCells() {
        int free = 0;
        for (int y = 0; y < now.high; y++) {
            for (int x = 0; x < now.wide; x++) {
                free += isFree(x, y) ? 1 : 0;
            }
        }
        return free;
    }

    private int wallCount() {
        int walls = 0;
        for (boolean[] row : now.isWalled) {
            for (boolean isWalled : row) {
                walls += isWalled ? 1 : 0;
            }
        }
        return walls;
    }

    int garden(int wide, int high) {
        need(wide >= 2 && wide <= 8 && high >= 2 && high <= 8);
        save();
        State next = new State();
        next.wide = wide;
        next.high = high;
        next.flips = now.flips;
        next.refused = now.refused;
        now = next;
        return wide * high;
    }

    int pond(int x, int y) {
        needCell(x, y);
        needState(kind(x, y) < 2);
        save();
        int was = now.pondX + 10 * now.pondY;
        now.pondX = x;
        now.pondY = y;
        return was;
    }

    int wall(int x, int y) {
        needCell(x, y);
        needState(kind(x, y) == 0 || kind(x, y) == 2);
        save();
        now.isWalled[y][x] = !now.isWalled[y][x];
        return wallCount();
    }

    int whyNot(int x, int y, int turn) {
        need(turn >= 0 && turn <= 3);
        if (x < 0 || y < 0 || x >= now.wide - 1 || y >= now.high - 1) {
            return 1;
        }
        int reason = 0;
        for (int[] cell : cellsOf(x, y, turn)) {
            int kind = kind(cell[0], cell[1]);
            if (kind != 0 && (reason == 0 || kind + 1 < reason)) {
                reason = kind + 1;
            }
        }
        return reason;
    }

    int lay(int x, int y, int turn) {
        int reason = whyNot(x, y, turn);
        save();
        if (reason == 0) {
            now.triples.add(new int[] {x, y, turn});
        } else {
            now.refused++;
        }
        return reason;
    }

    int lift(int x, int y) {
        needCell(x, y);
        int number = numberAt(x, y);
        needState(number >= 0);
        save();
        now.triples.remove(number);
        return number;
    }

    /** The two ways to cover a block of 2 by 3, each with the triple of the first cell before the other. */
    private static int[][][] blockWays(int x, int y, boolean isHigh) {
        if (isHigh) {
            return new int[][][] {{{x, y, 2}, {x, y + 1, 0}}, {{x, y, 3}, {x, y + 1, 1}}};
        }
        return new int[][][] {{{x, y, 2}, {x + 1, y, 0}}, {{x, y, 1}, {x + 1, y, 3}}};
    }

    private int numberOf(int[] triple) {
        for (int number = 0; number < now.triples.size(); number++) {
            if (Arrays.equals(now.triples.get(number), triple)) {
                return number;
            }
        }
        return -1;
    }

    /** Which of the two ways covers the block; -1 if none does. */
    private int wayLaid(int x, int y, boolean isHigh) {
        int[][][] ways = blockWays(x, y, isHigh);
        for (int way = 0; way < 2; way++) {
            if (numberOf(ways[way][0]) >= 0 && numberOf(ways[way][1]) >= 0) {
                return way;
            }
        }
        return -1;
    }

    int flip(int x, int y, boolean isHigh) {
        needCell(x, y);
        if (x + (isHigh ? 2 : 3) > now.wide || y + (isHigh ? 3 : 2) > now.high) {
            throw new IndexOutOfBoundsException();
        }
        int way = wayLaid(x, y, isHigh);
        needState(way >= 0);
        save();
        int[][][] ways = blockWays(x, y, isHigh);
        now.triples.remove(numberOf(ways[way][0]));
        now.triples.remove(numberOf(ways[way][1]));
        now.triples.add(ways[1 - way][0]);
        now.triples.add(ways[1 - way][1]);
        return ++now.flips;
    }

    private int flippable() {
        int blocks = 0;
        for (int y = 0; y < now.high; y++) {
            for (int x = 0; x < now.wide; x++) {
                blocks += wayLaid(x, y, true) >= 0 ? 1 : 0;
                blocks += wayLaid(x, y, false) >= 0 ? 1 : 0;
            }
        }
        return blocks;
    }

    /** The free cells, the bit 8 * y + x for each, only as a name to remember counts by. */
    private long freeName() {
        long name = 0;
        for (int y = 0; y < now.high; y++) {
            for (int x = 0; x < now.wide; x++) {
                name |= isFree(x, y) ? 1L << (8 * y + x) : 0;
            }
        }
        return name;
    }

    private static final Map<Long, Integer> KNOWN = new HashMap<>();

    private static int waysOf(long free) {
        if (free == 0) {
            return 1;
        }
        Integer known = KNOWN.get(free);
        if (known != null) {
            return known;
        }
        int first = 0;
        while ((free >> first & 1) == 0) {
            first++;
        }
        int ways = 0;
        for (int[] triple : coverers(first % 8, first / 8)) {
            long cells = name(triple);
            if ((cells & free) == cells) {
                ways += waysOf(free & ~cells);
            }
        }
        KNOWN.put(free, ways);
        return ways;
    }

    private static long name(int[] triple) {
        long name = 0;
        for (int[] cell : cellsOf(triple[0], triple[1], triple[2])) {
            name |= 1L << (8 * cell[1] + cell[0]);
        }
        return name;
    }

    /** All triples on the board of 8 by 8 that cover a cell, those of lesser turns first. */
    private static List<int[]> coverers(int x, int y) {
        List<int[]> triples = new ArrayList<>();
        for (int turn = 0; turn < 4; turn++) {
            for (int blockY = Math.max(0, y - 1); blockY <= Math.min(6, y); blockY++) {
                for (int blockX = Math.max(0, x - 1); blockX <= Math.min(6, x); blockX++) {
                    int[] triple = {blockX, blockY, turn};
                    if (covers(triple, x, y)) {
                        triples.add(triple);
                    }
                }
            }
        }
        return triples;
    }

    int ways() {
        KNOWN.clear();
        return waysOf(freeName());
    }

    int waysWith(int x, int y, int turn) {
        if (whyNot(x, y, turn) != 0) {
            return -1;
        }
        KNOWN.clear();
        return waysOf(freeName() & ~name(new int[] {x, y, turn}));
    }

    int fill() {
        needState(ways() > 0);
        save();
        int laid = 0;
        while (freeCells() > 0) {
            layFirst();
            laid++;
        }
        return laid;
    }

    private void layFirst() {
        int first = 0;
        while (!isFree(first % 8, first / 8)) {
            first++;
        }
        for (int[] triple : coverers(first % 8, first / 8)) {
            if (waysWith(triple[0], triple[1], triple[2]) > 0) {
                now.triples.add(triple);
                return;
            }
        }
    }

    int halve() {
        boolean isSquare = now.wide == now.high && (now.wide == 2 || now.wide == 4 || now.wide == 8);
        needState(isSquare && wallCount() == 0 && now.triples.isEmpty());
        save();
        square(0, 0, now.wide, now.pondX, now.pondY);
        return now.triples.size();
    }

    private void square(int x, int y, int size, int pondX, int pondY) {
        if (size == 2) {
            for (int turn = 0; turn < 4; turn++) {
                if (!covers(new int[] {x, y, turn}, pondX, pondY)) {
                    now.triples.add(new int[] {x, y, turn});
                }
            }
            return;
        }
        int half = size / 2;
        int[][] corners = {{x, y}, {x + half, y}, {x, y + half}, {x + half, y + half}};
        int[][] middles = {{x + half - 1, y + half - 1}, {x + half, y + half - 1},
            {x + half - 1, y + half}, {x + half, y + half}};
        int[] turns = {0, 1, 3, 2};
        int with = -1;
        for (int quarter = 0; quarter < 4; quarter++) {
            if (pondX >= corners[quarter][0] && pondX < corners[quarter][0] + half
                && pondY >= corners[quarter][1] && pondY < corners[quarter][1] + half) {
                with = quarter;
            }
        }
        now.triples.add(new int[] {x + half - 1, y + half - 1, turns[with]});
        for (int quarter = 0; quarter < 4; quarter++) {
            int[] pond = quarter == with ? new int[] {pondX, pondY} : middles[quarter];
            square(corners[quarter][0], corners[quarter][1], half, pond[0], pond[1]);
        }
    }

    int append(int code) {
        need(code >= 33 && code <= 126);
        needState(buffer.length() < 71);
        buffer.append((char) code);
        return buffer.length();
    }

    int clearBuffer() {
        int length = buffer.length();
        buffer.setLength(0);
        return length;
    }

    private static boolean isGarden(String text) {
        String[] rows = text.split("/", -1);
        boolean isRight = rows.length >= 2 && rows.length <= 8 && rows[0].length() >= 2 && rows[0].length() <= 8;
        for (String row : rows) {
            isRight &= row.length() == rows[0].length() && row.matches("[.#o]*");
        }
        return isRight && text.replaceAll("[^o]", "").length() == 1;
    }

    /** Whether some text behind this one makes a garden: tries whole rows, with a pond where none is. */
    private static boolean isBeginning(String text) {
        for (int wide = 2; wide <= 8; wide++) {
            for (int high = 2; high <= 8; high++) {
                for (int pond = 0; pond < 2; pond++) {
                    if (isGarden(ended(text, wide, high, pond == 1))) {
                        return true;
                    }
                }
            }
        }
        return false;
    }

    private static String ended(String text, int wide, int high, boolean hasPondLast) {
        StringBuilder whole = new StringBuilder(text);
        int length = high * (wide + 1) - 1;
        for (int index = text.length(); index < length; index++) {
            boolean isEnd = index % (wide + 1) == wide;
            whole.append(isEnd ? '/' : hasPondLast && index == length - 1 ? 'o' : '.');
        }
        return whole.toString();
    }

    int firstError() {
        for (int index = 0; index < buffer.length(); index++) {
            if (!isBeginning(buffer.substring(0, index + 1))) {
                return index;
            }
        }
        return buffer.length();
    }

    int load() {
        need(isGarden(buffer.toString()));
        save();
        String[] rows = buffer.toString().split("/", -1);
        State next = new State();
        next.wide = rows[0].length();
        next.high = rows.length;
        next.flips = now.flips;
        next.refused = now.refused;
        for (int y = 0; y < next.high; y++) {
            for (int x = 0; x < next.wide; x++) {
                next.isWalled[y][x] = rows[y].charAt(x) == '#';
                if (rows[y].charAt(x) == 'o') {
                    next.pondX = x;
                    next.pondY = y;
                }
            }
        }
        now = next;
        buffer.setLength(0);
        return freeCells();
    }

    int keep(int slot) {
        need(slot == 0 || slot == 1);
        slots[slot] = now.copy();
        return now.triples.size();
    }

    int goBack(int slot) {
        need(slot == 0 || slot == 1);
        needState(slots[slot] != null);
        save();
        now = slots[slot].copy();
        return now.triples.size();
    }

    int undo() {
        needState(!saved.isEmpty());
        now = saved.removeLast();
        return saved.size();
    }

    int cell(int x, int y, int what) {
        needCell(x, y);
        need(what >= 0 && what <= 2);
        if (what == 0) {
            return kind(x, y);
        }
        return what == 1 ? numberAt(x, y) : layable(x, y).size();
    }

    /** The triples that could be laid and cover a cell. */
    private List<int[]> layable(int x, int y) {
        List<int[]> triples = new ArrayList<>();
        for (int[] triple : coverers(x, y)) {
            if (whyNot(triple[0], triple[1], triple[2]) == 0) {
                triples.add(triple);
            }
        }
        return triples;
    }

    int triple(int triple, int what) {
        if (triple < 0 || triple >= now.triples.size()) {
            throw new IndexOutOfBoundsException();
        }
        need(what >= 0 && what <= 2);
        return now.triples.get(triple)[what];
    }

    int row(int y, int what) {
        if (y < 0 || y >= now.high) {
            throw new IndexOutOfBoundsException();
        }
        need(what >= 0 && what <= 2);
        int mask = 0;
        for (int x = 0; x < now.wide; x++) {
            int wanted = what == 0 ? 0 : what + 1;
            mask += kind(x, y) == wanted ? 1 << x : 0;
        }
        return mask;
    }

    int count(int what) {
        need(what >= 0 && what <= 11);
        int[] counts = {now.wide, now.high, now.pondX, now.pondY, wallCount(), now.triples.size(),
            freeCells(), layableCount(), flippable(), now.flips, now.refused, saved.size()};
        return counts[what];
    }

    private int layableCount() {
        int layable = 0;
        for (int place = 0; place < 256; place++) {
            layable += whyNot(place % 8, place / 8 % 8, place / 64) == 0 ? 1 : 0;
        }
        return layable;
    }

    private int firstFreeWith(int covers) {
        for (int place = 0; place < 64; place++) {
            if (isFree(place % 8, place / 8) && layable(place % 8, place / 8).size() == covers) {
                return place;
            }
        }
        return -1;
    }

    int forced(int what) {
        need(what == 0 || what == 1);
        int place = firstFreeWith(1);
        if (place < 0) {
            return -1;
        }
        int[] triple = layable(place % 8, place / 8).get(0);
        return what == 0 ? place % 8 + 10 * (place / 8) : triple[0] + 10 * triple[1] + 100 * triple[2];
    }

    int lonely() {
        int place = firstFreeWith(0);
        return place < 0 ? -1 : place % 8 + 10 * (place / 8);
    }

    int bestPond() {
        long all = freeName() | 1L << (8 * now.pondY + now.pondX);
        int best = -1;
        int most = 0;
        for (int place = 0; place < 64; place++) {
            KNOWN.clear();
            int ways = (all >> place & 1) != 0 ? waysOf(all & ~(1L << place)) : 0;
            if (ways > most) {
                most = ways;
                best = place % 8 + 10 * (place / 8);
            }
        }
        return best;
    }

    double pavedShare() {
        double paved = 3.0 * now.triples.size();
        return paved + freeCells() == 0 ? 1.0 : paved / (paved + freeCells());
    }

    long digest() {
        List<Long> values = new ArrayList<>();
        for (int what = 0; what < 12; what++) {
            values.add((long) count(what));
        }
        for (int index = 0; index < 3 * now.high; index++) {
            values.add((long) row(index / 3, index % 3));
        }
        for (int index = 0; index < now.wide * now.high; index++) {
            values.add((long) cell(index % now.wide, index / now.wide, 1));
            values.add((long) cell(index % now.wide, index / now.wide, 2));
        }
        for (int[] triple : now.triples) {
            for (int part : triple) {
                values.add((long) part);
            }
        }
        values.add((long) ways());
        for (int index = 0; index < 12; index++) {
            values.add((long) waysWith(new int[] {0, 1, 2}[index / 4], index / 4 == 1 ? 1 : 0, index % 4));
        }
        values.addAll(List.of((long) forced(0), (long) forced(1), (long) lonely()));
        values.add(Double.doubleToLongBits(pavedShare()));
        values.add(slots[0] == null ? 0L : 1L);
        values.add(slots[1] == null ? 0L : 1L);
        values.add((long) buffer.length());
        buffer.chars().forEach(code -> values.add((long) code));
        long hash = 3181;
        for (long value : values) {
            hash = 31 * hash + value;
        }
        return hash;
    }
}
