/** Promises 21 to 28: whyNot, ways, waysWith, forced, lonely, bestPond, pavedShare, digest. */
public final class WouldBeTest extends Cases {
    private static final int[] WRONG_TURNS = {-1, 4, 5, Integer.MAX_VALUE, Integer.MIN_VALUE};

    public static void main(String[] args) {
        new WouldBeTest().run();
    }

    // ---- promise 21: whyNot

    void promise21EachReason() {
        BentGardens gardens = Told.gardenOf("o#../..../..../....");
        check.due("beyond the garden", 1, gardens.whyNot(3, 0, 2));
        check.due("the pond", 2, gardens.whyNot(0, 0, 2));
        check.due("a wall", 3, gardens.whyNot(0, 0, 0));
        check.due("nothing", 0, gardens.whyNot(1, 0, 0));
        gardens.lay(1, 0, 0);
        check.due("a paved cell", 4, gardens.whyNot(1, 1, 0));
    }

    void promise21AnyNumbers() {
        BentGardens gardens = new BentGardens();
        int[] far = {Integer.MAX_VALUE, Integer.MIN_VALUE, Integer.MAX_VALUE - 1, 8, -2, 1 << 30, 64, -64};
        for (int number : far) {
            check.due("whyNot(" + number + ", 0, 0)", 1, gardens.whyNot(number, 0, 0));
            check.due("whyNot(0, " + number + ", 0)", 1, gardens.whyNot(0, number, 0));
        }
    }

    void promise21ChangesNothing() {
        BentGardens gardens = new BentGardens();
        String before = Told.all(gardens);
        gardens.whyNot(0, 0, 0);
        gardens.whyNot(0, 0, 1);
        gardens.whyNot(9, 9, 1);
        check.dueText("all", before, Told.all(gardens));
    }

    void promise21AsLayAnswers() {
        for (int part = 0; part < 100; part++) {
            BentGardens gardens = Told.gardenOf("o.#./..../#.../...#");
            gardens.lay(1, 1, 3);
            int x = part % 5 - 1;
            int y = part / 5 % 5 - 1;
            int why = gardens.whyNot(x, y, part / 25);
            check.due("lay(" + x + ", " + y + ", " + part / 25 + ")", why, gardens.lay(x, y, part / 25));
        }
    }

    void promise21TurnOutOfRange() {
        BentGardens gardens = new BentGardens();
        for (int turn : WRONG_TURNS) {
            check.refuses("whyNot(1, 1, " + turn + ")", NO_ARGUMENT, gardens, () -> gardens.whyNot(1, 1, turn));
            check.refuses("whyNot(9, 9, " + turn + ")", NO_ARGUMENT, gardens, () -> gardens.whyNot(9, 9, turn));
        }
    }

    // ---- promise 22: ways

    private void ways(String garden, int due) {
        check.due("ways of " + garden, due, Told.gardenOf(garden).ways());
    }

    void promise22OneIfNoCellIsFree() {
        ways("o#/##", 1);
        BentGardens gardens = new BentGardens();
        gardens.fill();
        check.due("ways when all is paved", 1, gardens.ways());
    }

    void promise22None() {
        ways("o#/#.", 0);
        ways("o##/#../###", 0);
        ways("o.../..../....", 0);
        ways("o../.../...", 0);
        ways("..#/..#/##o", 0);
        ways("o......./##.##.##/#..#..#.", 0);
    }

    void promise22One() {
        ways("o./..", 1);
        ways("../.o", 1);
        ways("o.../..../..../....", 1);
        ways("....#/.o..#/....#/....#", 1);
        ways(".##/..#/##o", 1);
    }

    void promise22Several() {
        ways("o##/.../...", 2);
        ways("o../#../#..", 2);
        ways("...o/...#/###./##..", 2);
        ways("...####/...####/####o##/####.../####...", 4);
        ways("#######o/......../......../........", 16);
    }

    void promise22Greatest() {
        ways("o......./......../......../......../......../......../......../........", 30355);
        ways("......../......../......../...o..../......../......../......../........", 13779);
    }

    void promise22FreeCellsLeftByTriples() {
        BentGardens gardens = new BentGardens();
        gardens.garden(5, 5);
        check.due("ways of 5 by 5", 8, gardens.ways());
        gardens.pond(2, 2);
        check.due("the pond in the middle", 32, gardens.ways());
        gardens.lay(0, 0, 0);
        check.due("a corner that nothing can cover", 0, gardens.ways());
        gardens.lift(1, 1);
        check.due("without the triple", 32, gardens.ways());
    }

    // ---- promise 23: waysWith

    void promise23WaysThatHaveIt() {
        BentGardens gardens = Told.gardenOf(5, 5, 0, 0);
        int[] due = {0, 0, 4, 4};
        for (int turn = 0; turn < 4; turn++) {
            check.due("waysWith(1, 0, " + turn + ")", due[turn], gardens.waysWith(1, 0, turn));
        }
        gardens.lay(1, 0, 2);
        check.due("ways when it is laid", 4, gardens.ways());
    }

    void promise23NoWayHasIt() {
        BentGardens gardens = new BentGardens();
        check.due("waysWith(1, 0, 0)", 0, gardens.waysWith(1, 0, 0));
        check.due("waysWith(1, 1, 1)", 0, Told.gardenOf("o../.../...").waysWith(1, 1, 1));
    }

    void promise23TheLastOne() {
        check.due("waysWith(0, 0, 0)", 1, Told.gardenOf("o./..").waysWith(0, 0, 0));
    }

    void promise23NoneIfItWouldBeRefused() {
        BentGardens gardens = Told.gardenOf("o.../..../..../...#");
        gardens.lay(1, 1, 0);
        check.due("beyond the garden", -1, gardens.waysWith(3, 0, 0));
        check.due("beyond the garden", -1, gardens.waysWith(-1, 0, 0));
        check.due("far beyond", -1, gardens.waysWith(Integer.MIN_VALUE, Integer.MAX_VALUE, 0));
        check.due("the pond", -1, gardens.waysWith(0, 0, 2));
        check.due("a wall", -1, gardens.waysWith(2, 2, 1));
        check.due("a paved cell", -1, gardens.waysWith(2, 0, 0));
    }

    void promise23NoneBeforeNoWay() {
        BentGardens gardens = Told.gardenOf("o#/#.");
        check.due("a wall, and no way", -1, gardens.waysWith(0, 0, 0));
    }

    void promise23ChangesNothing() {
        BentGardens gardens = new BentGardens();
        String before = Told.all(gardens);
        gardens.waysWith(0, 0, 0);
        gardens.waysWith(0, 0, 1);
        check.dueText("all", before, Told.all(gardens));
    }

    void promise23TurnOutOfRange() {
        BentGardens gardens = new BentGardens();
        for (int turn : WRONG_TURNS) {
            check.refuses("waysWith(1, 1, " + turn + ")", NO_ARGUMENT, gardens, () -> gardens.waysWith(1, 1, turn));
            check.refuses("waysWith(9, 9, " + turn + ")", NO_ARGUMENT, gardens, () -> gardens.waysWith(9, 9, turn));
        }
    }

    // ---- promise 24: forced

    private void forced(String garden, int dueCell, int dueTriple) {
        BentGardens gardens = Told.gardenOf(garden);
        check.due("forced(0) of " + garden, dueCell, gardens.forced(0));
        check.due("forced(1) of " + garden, dueTriple, gardens.forced(1));
    }

    void promise24EachTurn() {
        forced("o./..", 1, 0);
        forced(".o/..", 0, 100);
        forced("../.o", 0, 200);
        forced("../o.", 0, 300);
    }

    void promise24FirstCell() {
        forced(".#../.#../..#o", 10, 110);
        forced(".##/#../o.#", 11, 211);
        forced("o###/#.##/####/..##/#.##", 30, 330);
    }

    void promise24LastBlock() {
        forced(Told.rows(6, "########") + "/######../o#####.#", 66, 266);
    }

    void promise24None() {
        forced("..../..../...o", -1, -1);
        forced("..#/..#/##o", -1, -1);
    }

    void promise24NoneIfOnlyLonelyCells() {
        forced("#../#../o..", -1, -1);
        forced("o#/#.", -1, -1);
    }

    void promise24NoneIfNothingIsFree() {
        forced("o#/##", -1, -1);
    }

    void promise24LeftByTriples() {
        BentGardens gardens = Told.gardenOf("..../..../...o");
        gardens.lay(1, 0, 0);
        check.due("forced(0)", 0, gardens.forced(0));
        check.due("forced(1)", 200, gardens.forced(1));
    }

    void promise24WhatOutOfRange() {
        BentGardens gardens = new BentGardens();
        int[] wrong = {-1, 2, 3, Integer.MAX_VALUE, Integer.MIN_VALUE};
        for (int what : wrong) {
            check.refuses("forced(" + what + ")", NO_ARGUMENT, gardens, () -> gardens.forced(what));
        }
    }

    // ---- promise 25: lonely

    private void lonely(String garden, int due) {
        check.due("lonely of " + garden, due, Told.gardenOf(garden).lonely());
    }

    void promise25First() {
        lonely("o#/#.", 11);
        lonely("..#./..##/o..#/..#.", 3);
        lonely("..##/..##/o.##/#.#.", 31);
        lonely("##.##/#####/o....", 2);
    }

    void promise25UpperLeft() {
        lonely(".#/#o", 0);
    }

    void promise25LowerRight() {
        lonely(Told.rows(6, "########") + "/o#######/#######.", 77);
    }

    void promise25None() {
        lonely("o./..", -1);
        lonely("o.../..../..../....", -1);
    }

    void promise25NoneIfNothingIsFree() {
        lonely("o#/##", -1);
    }

    void promise25LeftByTriples() {
        BentGardens gardens = Told.gardenOf(4, 4, 2, 2);
        check.due("no cell is lonely", -1, gardens.lonely());
        gardens.lay(0, 0, 0);
        check.due("the corner is lonely", 0, gardens.lonely());
    }

    // ---- promise 26: bestPond

    private void bestPond(String garden, int due) {
        check.due("bestPond of " + garden, due, Told.gardenOf(garden).bestPond());
    }

    void promise26Best() {
        bestPond("...../...../...../...../o....", 22);
        bestPond("##.#/####/..##/o###", 2);
    }

    void promise26FirstOfSeveral() {
        bestPond("o./..", 0);
        bestPond("../.o", 0);
        bestPond("#../#o.", 1);
        bestPond("o.../..../..../....", 0);
        bestPond("..../..../..../...o", 0);
    }

    void promise26ThatOfThePond() {
        bestPond("###/#o#/###", 11);
        bestPond("o##/###", 0);
        bestPond("##o/###", 2);
    }

    void promise26LastCell() {
        bestPond(Told.rows(7, "########") + "/#######o", 77);
        bestPond("o.######/.#######/" + Told.rows(5, "########") + "/#######.", 77);
        bestPond("o.#/.##/##.", 22);
    }

    void promise26NoneIfNoWayWithAny() {
        bestPond("##o/#.#", -1);
        bestPond("o.../..../....", -1);
        bestPond("o##./####/.##.", -1);
    }

    void promise26ThePondBecomesFree() {
        bestPond(".#o/###/###", -1);
        bestPond(".##/##./#o.", 0);
    }

    void promise26TriplesAndWallsStay() {
        BentGardens gardens = new BentGardens();
        gardens.fill();
        check.due("all is paved", 0, gardens.bestPond());
        gardens.pond(0, 0);
        gardens.lift(3, 3);
        check.due("a block is left", 0, gardens.bestPond());
        BentGardens far = Told.gardenOf("...#/..##/####/###o");
        far.lay(0, 0, 1);
        check.due("a cell that nothing can cover", -1, far.bestPond());
    }

    void promise26AsEachPondTried() {
        BentGardens gardens = Told.gardenOf(5, 5, 0, 0);
        gardens.lay(1, 1, 0);
        gardens.pond(4, 4);
        check.due("5 by 5", new Ponds(gardens).best(), gardens.bestPond());
        gardens.garden(8, 8);
        gardens.wall(3, 3);
        gardens.wall(4, 4);
        gardens.wall(0, 7);
        check.due("8 by 8", new Ponds(gardens).best(), gardens.bestPond());
    }

    /** Tries each pond for real. */
    private static final class Ponds {
        private final BentGardens gardens;

        Ponds(BentGardens gardens) {
            this.gardens = gardens;
        }

        int best() {
            int best = -1;
            int most = 0;
            for (int place = 0; place < gardens.count(0) * gardens.count(1); place++) {
                int x = place % gardens.count(0);
                int y = place / gardens.count(0);
                int ways = gardens.cell(x, y, 0) < 2 ? waysAround(x, y) : 0;
                if (ways > most) {
                    most = ways;
                    best = x + 10 * y;
                }
            }
            return best;
        }

        private int waysAround(int x, int y) {
            int was = gardens.pond(x, y);
            int ways = gardens.ways();
            gardens.pond(was % 10, was / 10);
            return ways;
        }
    }

    void promise26ChangesNothing() {
        BentGardens gardens = Told.gardenOf("...../...../...../...../o....");
        String before = Told.all(gardens);
        gardens.bestPond();
        check.dueText("all", before, Told.all(gardens));
    }

    // ---- promise 27: pavedShare

    void promise27NothingIsPaved() {
        check.dueShare("pavedShare", 0.0, new BentGardens().pavedShare());
    }

    void promise27AllIsPaved() {
        BentGardens gardens = new BentGardens();
        gardens.fill();
        check.dueShare("pavedShare", 1.0, gardens.pavedShare());
    }

    void promise27OneWithoutPavedAndFreeCells() {
        check.dueShare("pavedShare", 1.0, Told.gardenOf("#o/##").pavedShare());
    }

    void promise27PavedDividedByPavedAndFree() {
        BentGardens gardens = new BentGardens();
        gardens.lay(0, 0, 0);
        check.dueShare("3 of 15", 3.0 / 15.0, gardens.pavedShare());
        gardens.wall(3, 3);
        check.dueShare("3 of 14", 3.0 / 14.0, gardens.pavedShare());
        gardens.lay(2, 0, 1);
        check.dueShare("6 of 14", 6.0 / 14.0, gardens.pavedShare());
        BentGardens great = Told.gardenOf(8, 8, 0, 0);
        great.lay(0, 0, 0);
        check.dueShare("3 of 63", 3.0 / 63.0, great.pavedShare());
    }

    // ---- promise 28: digest

    /** The hash from the calls that tell its values, as the document lists them. */
    private static long hashOf(BentGardens gardens, int keptFirst, int keptSecond, String buffer) {
        long hash = 3181;
        for (int what = 0; what < 12; what++) {
            hash = 31 * hash + gardens.count(what);
        }
        for (int y = 0; y < gardens.count(1); y++) {
            for (int what = 0; what < 3; what++) {
                hash = 31 * hash + gardens.row(y, what);
            }
        }
        for (int place = 0; place < gardens.count(0) * gardens.count(1); place++) {
            for (int what = 1; what < 3; what++) {
                hash = 31 * hash + gardens.cell(place % gardens.count(0), place / gardens.count(0), what);
            }
        }
        for (int part = 0; part < 3 * gardens.count(5); part++) {
            hash = 31 * hash + gardens.triple(part / 3, part % 3);
        }
        hash = 31 * hash + gardens.ways();
        int[][] blocks = {{0, 0}, {1, 1}, {2, 0}};
        for (int part = 0; part < 12; part++) {
            hash = 31 * hash + gardens.waysWith(blocks[part / 4][0], blocks[part / 4][1], part % 4);
        }
        hash = 31 * hash + gardens.forced(0);
        hash = 31 * hash + gardens.forced(1);
        hash = 31 * hash + gardens.lonely();
        hash = 31 * hash + Double.doubleToLongBits(gardens.pavedShare());
        hash = 31 * (31 * hash + keptFirst) + keptSecond;
        hash = 31 * hash + buffer.length();
        for (int index = 0; index < buffer.length(); index++) {
            hash = 31 * hash + buffer.charAt(index);
        }
        return hash;
    }

    void promise28NewObject() {
        BentGardens gardens = new BentGardens();
        check.due("digest", hashOf(gardens, 0, 0, ""), gardens.digest());
        check.due("digest, once worked out", 2791126108096517843L, gardens.digest());
    }

    void promise28GreatestGarden() {
        BentGardens gardens = new BentGardens();
        gardens.garden(8, 8);
        check.due("digest", hashOf(gardens, 0, 0, ""), gardens.digest());
        check.due("digest, once worked out", -8383867900386389682L, gardens.digest());
    }

    void promise28LeastGarden() {
        BentGardens gardens = new BentGardens();
        gardens.garden(2, 2);
        check.due("digest", hashOf(gardens, 0, 0, ""), gardens.digest());
    }

    void promise28HighAndWide() {
        BentGardens gardens = Told.gardenOf(3, 8, 2, 7);
        check.due("digest of 3 by 8", hashOf(gardens, 0, 0, ""), gardens.digest());
        gardens.garden(8, 3);
        check.due("digest of 8 by 3", hashOf(gardens, 0, 0, ""), gardens.digest());
    }

    void promise28EachSlot() {
        for (int slots = 0; slots < 4; slots++) {
            BentGardens gardens = new BentGardens();
            for (int slot = 0; slot < 2; slot++) {
                if ((slots >> slot & 1) != 0) {
                    gardens.keep(slot);
                }
            }
            check.due("digest with the slots " + slots, hashOf(gardens, slots & 1, slots >> 1, ""),
                gardens.digest());
        }
    }

    void promise28Buffer() {
        BentGardens gardens = new BentGardens();
        StringBuilder text = new StringBuilder();
        for (int code = 33; code < 33 + 71; code++) {
            gardens.append(code);
            text.append((char) code);
        }
        check.due("digest with a full buffer", hashOf(gardens, 0, 0, text.toString()), gardens.digest());
        gardens.clearBuffer();
        check.due("digest with an empty buffer", hashOf(gardens, 0, 0, ""), gardens.digest());
        gardens.append('~');
        check.due("digest with one character", hashOf(gardens, 0, 0, "~"), gardens.digest());
    }

    void promise28Counts() {
        BentGardens gardens = Told.gardenOf("...o/...#");
        gardens.lay(0, 0, 2);
        gardens.lay(1, 0, 0);
        gardens.lay(1, 0, 0);
        gardens.flip(0, 0, false);
        check.due("digest", hashOf(gardens, 0, 0, ""), gardens.digest());
    }

    void promise28Shares() {
        for (int cells = 3; cells <= 63; cells++) {
            BentGardens gardens = Told.gardenOf(8, 8, 0, 0);
            for (int place = 63; gardens.count(6) > cells; place--) {
                gardens.wall(place % 8, place / 8);
            }
            for (int x = 0; x < 7; x += 2) {
                gardens.lay(x, 0, 0);
                check.due("digest, " + cells + " cells", hashOf(gardens, 0, 0, ""), gardens.digest());
            }
        }
    }

    void promise28NothingToPave() {
        BentGardens gardens = Told.gardenOf("##/#o");
        check.due("digest", hashOf(gardens, 0, 0, ""), gardens.digest());
    }

    void promise28WrapsAround() {
        BentGardens gardens = Told.gardenOf(8, 8, 3, 3);
        gardens.fill();
        check.due("digest", hashOf(gardens, 0, 0, ""), gardens.digest());
        check.due("digest again", gardens.digest(), gardens.digest());
    }

    void promise28ChangesNothing() {
        BentGardens gardens = Told.gardenOf("o..../...../...../...../....#");
        gardens.lay(0, 0, 0);
        String before = Told.all(gardens);
        gardens.ways();
        gardens.forced(0);
        gardens.forced(1);
        gardens.lonely();
        gardens.pavedShare();
        gardens.digest();
        check.dueText("all", before, Told.all(gardens));
    }
}
