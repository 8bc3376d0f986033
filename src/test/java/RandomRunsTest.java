import java.util.Random;

/** Runs of calls, always the same ones, answered by the class and by the document told again. */
public final class RandomRunsTest {
    private static final String SIGNS = "....##o/";
    private static final int[] EDGES = {-1, Integer.MAX_VALUE, Integer.MIN_VALUE, 8, 7, 9};

    private final Check check = new Check();
    private final Random random;
    private final int run;
    private final int mostSide;
    private BentGardens gardens = new BentGardens();
    private NaiveGardens naive = new NaiveGardens();

    private RandomRunsTest(int run) {
        this.run = run;
        this.random = new Random(run);
        this.mostSide = run % 8 == 0 ? 8 : 6;
    }

    public static void main(String[] args) {
        for (int run = 0; run < 360; run++) {
            new RandomRunsTest(run).goOn();
        }
    }

    private void goOn() {
        for (int call = 0; call < 70; call++) {
            oneCall(call);
        }
        check.end();
    }

    private int near(int bound) {
        return random.nextInt(60) == 0 ? EDGES[random.nextInt(EDGES.length)] : random.nextInt(bound);
    }

    private void same(String call, String want, String got) {
        check.dueText("run " + run + ": " + call, want, got);
    }

    private void oneCall(int call) {
        int kind = random.nextInt(42);
        if (kind >= 40) {
            paveAll();
            return;
        }
        int x = near(gardens.count(0));
        int y = near(gardens.count(1));
        int z = near(4);
        if (kind < 20) {
            change(kind, x, y, z);
        } else if (kind < 30) {
            say(kind, z % 2);
        } else {
            look(kind, x, y, z);
        }
        if (call % 4 == 0) {
            same("digest", naive.digest() + "", gardens.digest() + "");
        }
    }

    private void change(int kind, int x, int y, int z) {
        String call = kind + "(" + x + ", " + y + ", " + z + ")";
        if (kind < 9) {
            same("lay" + call, Check.outcome(() -> naive.lay(x, y, z)), Check.outcome(() -> gardens.lay(x, y, z)));
        } else if (kind < 11) {
            same("lift" + call, Check.outcome(() -> naive.lift(x, y)), Check.outcome(() -> gardens.lift(x, y)));
        } else if (kind < 14) {
            flipSomewhere(x, y, z % 2 == 0);
        } else if (kind < 16) {
            same("pond" + call, Check.outcome(() -> naive.pond(x, y)), Check.outcome(() -> gardens.pond(x, y)));
        } else if (kind < 18) {
            same("wall" + call, Check.outcome(() -> naive.wall(x, y)), Check.outcome(() -> gardens.wall(x, y)));
        } else if (kind == 18) {
            same("fill" + call, Check.outcome(() -> naive.fill()), Check.outcome(() -> gardens.fill()));
        } else {
            same("halve" + call, Check.outcome(() -> naive.halve()), Check.outcome(() -> gardens.halve()));
        }
    }

    /** Mostly a block that can be flipped, if there is one. */
    private void flipSomewhere(int x, int y, boolean isHigh) {
        int atX = x;
        int atY = y;
        for (int tries = 0; tries < 9 && gardens.count(8) > 0 && !canFlip(atX, atY, isHigh); tries++) {
            atX = random.nextInt(gardens.count(0));
            atY = random.nextInt(gardens.count(1));
        }
        int finalX = atX;
        int finalY = atY;
        same("flip(" + atX + ", " + atY + ", " + isHigh + ")",
            Check.outcome(() -> naive.flip(finalX, finalY, isHigh)),
            Check.outcome(() -> gardens.flip(finalX, finalY, isHigh)));
    }

    /** Tried for real, and undone. */
    private boolean canFlip(int x, int y, boolean isHigh) {
        if (Check.outcome(() -> gardens.flip(x, y, isHigh)).endsWith("Exception")) {
            return false;
        }
        same("flip as well", "no exception", Check.outcome(() -> naive.flip(x, y, isHigh)).endsWith("Exception")
            ? "an exception" : "no exception");
        gardens.undo();
        naive.undo();
        return true;
    }

    /** A garden that has enough free cells for whole triples, and often is paved. */
    private void paveAll() {
        int wide = 2 + random.nextInt(mostSide - 1);
        int high = wide % 3 == 0 ? wide : wide + 3 * random.nextInt(2);
        high = high > mostSide ? wide : high;
        same("garden", naive.garden(wide, high) + "", gardens.garden(wide, high) + "");
        int x = random.nextInt(wide);
        int y = random.nextInt(high);
        same("pond", naive.pond(x, y) + "", gardens.pond(x, y) + "");
        same("ways", naive.ways() + "", gardens.ways() + "");
        same("bestPond", naive.bestPond() + "", gardens.bestPond() + "");
        if (random.nextInt(3) == 0) {
            same("halve", Check.outcome(() -> naive.halve()), Check.outcome(() -> gardens.halve()));
        }
        same("fill", Check.outcome(() -> naive.fill()), Check.outcome(() -> gardens.fill()));
        flipSomewhere(x, y, random.nextBoolean());
        same("digest", naive.digest() + "", gardens.digest() + "");
    }

    private void say(int kind, int slot) {
        if (kind < 22) {
            sayText();
        } else if (kind == 22) {
            int wide = near(mostSide - 1) + 2;
            int high = random.nextInt(3) == 0 ? wide : near(mostSide - 1) + 2;
            same("garden", Check.outcome(() -> naive.garden(wide, high)),
                Check.outcome(() -> gardens.garden(wide, high)));
        } else if (kind < 25) {
            same("keep", Check.outcome(() -> naive.keep(slot)), Check.outcome(() -> gardens.keep(slot)));
        } else if (kind < 27) {
            same("goBack", Check.outcome(() -> naive.goBack(slot)), Check.outcome(() -> gardens.goBack(slot)));
        } else {
            same("undo", Check.outcome(() -> naive.undo()), Check.outcome(() -> gardens.undo()));
        }
    }

    private void sayText() {
        String text = random.nextBoolean() ? someGarden() : someSigns();
        for (int index = 0; index < text.length(); index++) {
            int code = text.charAt(index);
            same("append", Check.outcome(() -> naive.append(code)), Check.outcome(() -> gardens.append(code)));
        }
        same("firstError", naive.firstError() + "", gardens.firstError() + "");
        same("load", Check.outcome(() -> naive.load()), Check.outcome(() -> gardens.load()));
        if (random.nextInt(3) > 0) {
            same("clearBuffer", naive.clearBuffer() + "", gardens.clearBuffer() + "");
        }
    }

    private String someSigns() {
        StringBuilder text = new StringBuilder();
        int length = random.nextInt(12);
        for (int index = 0; index < length; index++) {
            text.append(random.nextInt(30) == 0 ? (char) random.nextInt(128)
                : SIGNS.charAt(random.nextInt(SIGNS.length())));
        }
        return text.toString();
    }

    /** A garden as a text, now and then with a sign that is changed. */
    private String someGarden() {
        int wide = 2 + random.nextInt(mostSide - 1);
        int high = 2 + random.nextInt(mostSide - 1);
        StringBuilder text = new StringBuilder();
        for (int y = 0; y < high; y++) {
            text.append(y == 0 ? "" : "/");
            for (int x = 0; x < wide; x++) {
                text.append(random.nextInt(8) == 0 ? '#' : '.');
            }
        }
        text.setCharAt(random.nextInt(high) * (wide + 1) + random.nextInt(wide), 'o');
        if (random.nextInt(3) == 0) {
            text.setCharAt(random.nextInt(text.length()), SIGNS.charAt(random.nextInt(SIGNS.length())));
        }
        return text.toString();
    }

    private void look(int kind, int x, int y, int z) {
        String call = kind + "(" + x + ", " + y + ", " + z + ")";
        if (kind == 30) {
            same("cell" + call, Check.outcome(() -> naive.cell(x, y, z)), Check.outcome(() -> gardens.cell(x, y, z)));
        } else if (kind == 31) {
            same("triple" + call, Check.outcome(() -> naive.triple(x, z)), Check.outcome(() -> gardens.triple(x, z)));
        } else if (kind == 32) {
            same("row" + call, Check.outcome(() -> naive.row(y, z)), Check.outcome(() -> gardens.row(y, z)));
        } else if (kind == 33) {
            int what = near(12);
            same("count" + what, Check.outcome(() -> naive.count(what)), Check.outcome(() -> gardens.count(what)));
        } else if (kind == 34) {
            same("whyNot" + call, Check.outcome(() -> naive.whyNot(x, y, z)),
                Check.outcome(() -> gardens.whyNot(x, y, z)));
        } else if (kind == 35) {
            same("waysWith" + call, Check.outcome(() -> naive.waysWith(x, y, z)),
                Check.outcome(() -> gardens.waysWith(x, y, z)));
        } else if (kind == 36) {
            same("forced" + call, Check.outcome(() -> naive.forced(z)), Check.outcome(() -> gardens.forced(z)));
        } else {
            same("ways", naive.ways() + "", gardens.ways() + "");
            same("lonely", naive.lonely() + "", gardens.lonely() + "");
            same("bestPond", naive.bestPond() + "", gardens.bestPond() + "");
            check.dueShare("pavedShare", naive.pavedShare(), gardens.pavedShare());
        }
    }
}
