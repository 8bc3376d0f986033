/** Promises 21 to 28: whyNot, ways, waysWith, forced, lonely, bestPond, pavedShare, digest. */
public final class WouldBeTest {
    private static final int[] WRONG_TURNS = {-1, 4, Integer.MAX_VALUE, Integer.MIN_VALUE};

    private final Check check = new Check();

    public static void main(String[] args) {
        WouldBeTest test = new WouldBeTest();
        test.whyNot();
        test.ways();
        test.waysWith();
        test.forced();
        test.lonely();
        test.bestPond();
        test.pavedShare();
        test.digest();
        test.digestsOnceWorkedOut();
        test.nothingIsChanged();
        test.check.end();
    }

    private void whyNot() {
        BentGardens gardens = Told.gardenOf("o#../..../..../....");
        check.due("the pond before the wall", 2, gardens.whyNot(0, 0, 2));
        check.due("a wall", 3, gardens.whyNot(0, 0, 0));
        check.due("nothing", 0, gardens.whyNot(1, 0, 0));
        gardens.lay(1, 0, 0);
        check.due("a wall before a paved cell", 3, gardens.whyNot(1, 0, 3));
        check.due("a paved cell", 4, gardens.whyNot(1, 1, 0));
        int[][] beyond = {{3, 0}, {0, 3}, {-1, 0}, {0, -1}, {Integer.MAX_VALUE, 0}, {0, Integer.MAX_VALUE},
            {Integer.MIN_VALUE, 0}, {0, Integer.MIN_VALUE}};
        for (int[] block : beyond) {
            check.due("beyond the garden", 1, gardens.whyNot(block[0], block[1], 2));
        }
        check.due("nothing is refused by whyNot", 0, gardens.count(10));
        for (int turn : WRONG_TURNS) {
            check.refuses("whyNot, turn " + turn, IllegalArgumentException.class, gardens,
                () -> gardens.whyNot(9, 9, turn));
        }
    }

    private void ways(String garden, int due) {
        check.due("ways of " + garden, due, Told.gardenOf(garden).ways());
    }

    private void ways() {
        ways("o#/##", 1);
        ways("o#/#.", 0);
        ways("o./..", 1);
        ways("o##/.../...", 2);
        ways("o../#../#..", 2);
        ways("o../.../...", 0);
        ways("o.../..../..../....", 1);
        ways("....#/.o..#/....#/....#", 1);
        ways("o......./##.##.##/#..#..#.", 0);
        ways("#######o/......../......../........", 16);
        ways("o......./......../......../......../......../......../......../........", 30355);
        ways("......../......../......../...o..../......../......../......../........", 13779);
        BentGardens gardens = new BentGardens();
        gardens.garden(5, 5);
        check.due("ways of 5 by 5", 8, gardens.ways());
        gardens.pond(2, 2);
        check.due("ways of 5 by 5, the pond in the middle", 32, gardens.ways());
        gardens.lay(0, 0, 0);
        check.due("ways with a lonely corner", 0, gardens.ways());
        gardens.lift(1, 1);
        gardens.fill();
        check.due("ways of nothing", 1, gardens.ways());
    }

    private void waysWith() {
        BentGardens gardens = new BentGardens();
        gardens.garden(5, 5);
        int[] due = {0, 0, 4, 4};
        for (int turn = 0; turn < 4; turn++) {
            check.due("waysWith(1, 0, " + turn + ")", due[turn], gardens.waysWith(1, 0, turn));
        }
        check.due("waysWith on the pond", -1, gardens.waysWith(0, 0, 1));
        gardens.wall(4, 4);
        check.due("waysWith on a wall", -1, gardens.waysWith(3, 3, 1));
        check.due("no way is left", 0, gardens.waysWith(1, 0, 2));
        gardens.wall(4, 4);
        gardens.lay(1, 0, 2);
        check.due("waysWith on a triple", -1, gardens.waysWith(1, 0, 0));
        check.due("ways with what was laid", 4, gardens.ways());
        check.due("waysWith beyond", -1, gardens.waysWith(4, 0, 0));
        check.due("waysWith far beyond", -1, gardens.waysWith(Integer.MIN_VALUE, Integer.MAX_VALUE, 0));
        for (int turn : WRONG_TURNS) {
            check.refuses("waysWith, turn " + turn, IllegalArgumentException.class, gardens,
                () -> gardens.waysWith(9, 9, turn));
        }
    }

    private void forced(String garden, int dueCell, int dueTriple) {
        BentGardens gardens = Told.gardenOf(garden);
        check.due("forced(0) of " + garden, dueCell, gardens.forced(0));
        check.due("forced(1) of " + garden, dueTriple, gardens.forced(1));
    }

    private void forced() {
        forced("o./..", 1, 0);
        forced("../.o", 0, 200);
        forced("../o.", 0, 300);
        forced(".o/..", 0, 100);
        forced("..../..../...o", -1, -1);
        forced(".#../.#../..#o", 10, 110);
        forced("..#/..#/##o", -1, -1);
        forced("#../#../o..", -1, -1);
        forced("o###/#.##/####/..##/#.##", 30, 330);
        forced(".##/#../o.#", 11, 211);
        BentGardens gardens = new BentGardens();
        int[] wrong = {-1, 2, Integer.MAX_VALUE, Integer.MIN_VALUE};
        for (int what : wrong) {
            check.refuses("forced " + what, IllegalArgumentException.class, gardens, () -> gardens.forced(what));
        }
    }

    private void lonely(String garden, int due) {
        check.due("lonely of " + garden, due, Told.gardenOf(garden).lonely());
    }

    private void lonely() {
        lonely("o./..", -1);
        lonely("o#/##", -1);
        lonely("o#/#.", 11);
        lonely("..#./..##/o..#/..#.", 3);
        lonely("..##/..##/o.##/#.#.", 31);
        lonely("##.##/#####/o....", 2);
        BentGardens gardens = new BentGardens();
        gardens.pond(2, 2);
        check.due("no cell is lonely", -1, gardens.lonely());
        gardens.lay(0, 0, 0);
        check.due("the corner is lonely", 0, gardens.lonely());
    }

    private void bestPond(String garden, int due) {
        check.due("bestPond of " + garden, due, Told.gardenOf(garden).bestPond());
    }

    private void bestPond() {
        bestPond("o./..", 0);
        bestPond("../.o", 0);
        bestPond("o##/###", 0);
        bestPond("##o/###", 2);
        bestPond("##o/#.#", -1);
        bestPond("...../...../...../...../o....", 22);
        bestPond("##.#/####/..##/o###", 2);
        bestPond("o......./......../......../......../......../......../......../........", 0);
        bestPond("o.../..../....", -1);
        BentGardens gardens = new BentGardens();
        gardens.garden(5, 5);
        gardens.lay(1, 1, 0);
        gardens.pond(4, 4);
        check.due("bestPond keeps the triples", new Count(gardens).best(), gardens.bestPond());
        gardens.garden(8, 8);
        gardens.wall(3, 3);
        gardens.wall(4, 4);
        gardens.wall(0, 7);
        check.due("bestPond of 8 by 8", new Count(gardens).best(), gardens.bestPond());
    }

    /** Tries each pond for real. */
    private static final class Count {
        private final BentGardens gardens;

        Count(BentGardens gardens) {
            this.gardens = gardens;
        }

        int best() {
            int best = -1;
            int most = 0;
            for (int place = 0; place < gardens.count(0) * gardens.count(1); place++) {
                int x = place % gardens.count(0);
                int y = place / gardens.count(0);
                int ways = gardens.cell(x, y, 0) < 2 ? waysAround(x, y) : 0;
                if (ways > most) {
                    most = ways;
                    best = x + 10 * y;
                }
            }
            return best;
        }

        private int waysAround(int x, int y) {
            int was = gardens.pond(x, y);
            int ways = gardens.ways();
            gardens.pond(was % 10, was / 10);
            return ways;
        }
    }

    private void pavedShare() {
        BentGardens gardens = new BentGardens();
        check.dueShare("nothing is paved", 0.0, gardens.pavedShare());
        gardens.lay(0, 0, 0);
        check.dueShare("3 of 15", 3.0 / 15.0, gardens.pavedShare());
        gardens.wall(3, 3);
        check.dueShare("3 of 14", 3.0 / 14.0, gardens.pavedShare());
        gardens.wall(3, 3);
        gardens.fill();
        check.dueShare("all is paved", 1.0, gardens.pavedShare());
        check.dueShare("nothing to pave", 1.0, Told.gardenOf("#o/##").pavedShare());
        BentGardens greater = new BentGardens();
        greater.garden(8, 8);
        greater.lay(0, 0, 0);
        check.dueShare("3 of 63", 3.0 / 63.0, greater.pavedShare());
    }

    /** The hash from the calls that tell its values, as the document lists them. */
    private static long hashOf(BentGardens gardens, int keptFirst, int keptSecond, String buffer) {
        long hash = 3181;
        for (int what = 0; what < 12; what++) {
            hash = 31 * hash + gardens.count(what);
        }
        for (int y = 0; y < gardens.count(1); y++) {
            for (int what = 0; what < 3; what++) {
                hash = 31 * hash + gardens.row(y, what);
            }
        }
        for (int place = 0; place < gardens.count(0) * gardens.count(1); place++) {
            for (int what = 1; what < 3; what++) {
                hash = 31 * hash + gardens.cell(place % gardens.count(0), place / gardens.count(0), what);
            }
        }
        for (int part = 0; part < 3 * gardens.count(5); part++) {
            hash = 31 * hash + gardens.triple(part / 3, part % 3);
        }
        hash = 31 * hash + gardens.ways();
        int[][] blocks = {{0, 0}, {1, 1}, {2, 0}};
        for (int part = 0; part < 12; part++) {
            hash = 31 * hash + gardens.waysWith(blocks[part / 4][0], blocks[part / 4][1], part % 4);
        }
        hash = 31 * hash + gardens.forced(0);
        hash = 31 * hash + gardens.forced(1);
        hash = 31 * hash + gardens.lonely();
        hash = 31 * hash + Double.doubleToLongBits(gardens.pavedShare());
        hash = 31 * (31 * hash + keptFirst) + keptSecond;
        hash = 31 * hash + buffer.length();
        for (int index = 0; index < buffer.length(); index++) {
            hash = 31 * hash + buffer.charAt(index);
        }
        return hash;
    }

    private void digest() {
        BentGardens gardens = new BentGardens();
        check.due("digest of a new object", hashOf(gardens, 0, 0, ""), gardens.digest());
        gardens.keep(1);
        Told.append(gardens, "#.o/..~!");
        check.due("digest with a snapshot", hashOf(gardens, 0, 1, "#.o/..~!"), gardens.digest());
        gardens.lay(2, 2, 0);
        gardens.lay(2, 2, 0);
        gardens.keep(0);
        check.due("digest with a triple", hashOf(gardens, 1, 1, "#.o/..~!"), gardens.digest());
        gardens.garden(2, 2);
        check.due("digest of 2 by 2", hashOf(gardens, 1, 1, "#.o/..~!"), gardens.digest());
        for (int free = 3; free <= 63; free++) {
            shareInDigest(free);
        }
    }

    /** A triple in a garden with so many other cells free: the bits of many shares. */
    private void shareInDigest(int cells) {
        BentGardens gardens = new BentGardens();
        gardens.garden(8, 8);
        for (int place = 63; gardens.count(6) > cells; place--) {
            gardens.wall(place % 8, place / 8);
        }
        for (int x = 0; x < 7; x += 2) {
            gardens.lay(x, 0, 0);
            check.due("digest with a share", hashOf(gardens, 0, 0, ""), gardens.digest());
        }
    }

    private void digestsOnceWorkedOut() {
        check.due("digest of a new object", 2791126108096517843L, new BentGardens().digest());
        BentGardens great = new BentGardens();
        great.garden(8, 8);
        check.due("digest of 8 by 8", -8383867900386389682L, great.digest());
    }

    private void nothingIsChanged() {
        BentGardens gardens = Told.gardenOf("o..../...../...../...../....#");
        gardens.lay(0, 0, 0);
        long before = gardens.digest();
        gardens.whyNot(0, 0, 0);
        gardens.ways();
        gardens.waysWith(2, 2, 1);
        gardens.forced(0);
        gardens.forced(1);
        gardens.lonely();
        gardens.bestPond();
        gardens.pavedShare();
        check.due("nothing is changed", before, gardens.digest());
    }
}
