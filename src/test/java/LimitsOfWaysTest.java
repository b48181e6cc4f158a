/** The boundary cases of the promises 9 to 12: a test for each sentence that names one. */
public final class LimitsOfWaysTest {
    private static final int NONE = SpringLevels.NONE;
    private static final int[] NO_LEVELS = {-1, 2, 5, 6, 7, Integer.MIN_VALUE, Integer.MAX_VALUE};

    /** The longest way that long searches over levels found; the start is a SPRING. */
    private static final String[] LONG = {".#.^.^...ooo", ".#.^...^^.#.", ".^.oo^^oo^^.", ".o#o.#F....o",
        ".^..^.#.#.^S", ".#o...^.o.#.", "o..^^.o.^.#.", "o..oo..o#o.o"};

    public static void main(String[] args) {
        promise9TheLeastWay();
        promise9TheLongestWay();
        promise9TheWayInTheFramesAllowed();
        promise9None();
        promise9NoSuchLevel();
        promise9OfAllSixLevels();
        promise9OnALevelWithARun();
        promise9IsNoOpening();
        promise10NotFoundYet();
        promise10NoneWasFound();
        promise10NotFoundSinceTheLatestEditing();
        promise10BehindRefusedEditing();
        promise10NoSuchLevel();
        promise11TrueIfItWasOpen();
        promise11BeforeSolve();
        promise11WithoutAWay();
        promise11BehindEditing();
        promise11NoSuchLevel();
        promise12OfANewLevel();
        promise12TrueIfItIs();
        promise12BehindARefusedOpen();
        promise12NoSuchLevel();
        Checks.end("LimitsOfWaysTest");
    }

    private static SpringLevels two() {
        SpringLevels x = new SpringLevels();
        Checks.draw(x, "S.F", "###");
        Checks.draw(x, "S#F", "###");
        return x;
    }

    // ---- promise 9

    private static void promise9TheLeastWay() {
        Checks.about("Promise 9", "Returns the way, 1 to 100");
        SpringLevels x = two();
        x.setFlag(0, 1, 0);
        Checks.same("9: solve with the flag beside the start", x.solve(0), 1);
        x.setFlag(0, 0, 0);
        Checks.same("9: solve with the flag at the start", x.solve(0), 1);
        Checks.same("10: way", x.way(0), 1);
    }

    private static void promise9TheLongestWay() {
        Checks.about("Promise 9", "Returns the way, 1 to 100");
        SpringLevels x = new SpringLevels();
        Checks.draw(x, LONG);
        x.setCell(0, 11, 4, SpringLevels.SPRING);
        Checks.same("9: solve of the longest way that is known", x.solve(0), 95);
        Checks.same("10: way", x.way(0), 95);
        x.open(0);
        x.begin(0, 0);
        for (int frame = 1; frame <= 95; frame++) {
            Checks.same("20: left", x.left(), 96 - frame);
            x.play(x.hint());
        }
        Checks.same("15: state", x.state(), SpringLevels.WON);
    }

    /** A run may be WON up to frame 100, and the way is asked for anew in between. */
    private static void promise9TheWayInTheFramesAllowed() {
        Checks.about("Promise 9", "Finds the way of a level");
        SpringLevels x = Checks.begun("S.F", "###");
        Checks.playAll(x, "0".repeat(99));
        Checks.same("20: left behind 99 frames", x.left(), NONE);
        Checks.same("9: solve behind 99 frames of a run", x.solve(0), 2);
        x.play(0);
        Checks.same("9: solve behind a LOST run", x.solve(0), 2);
    }

    private static void promise9None() {
        Checks.about("Promise 9", "NONE if there is none");
        SpringLevels x = two();
        Checks.same("9: solve behind a BLOCK", x.solve(1), NONE);
        x.setCell(1, 1, 0, SpringLevels.SPIKE);
        Checks.same("9: solve behind a SPIKE", x.solve(1), NONE);
        x.setCell(1, 1, 0, SpringLevels.EMPTY);
        x.setCell(1, 2, 0, SpringLevels.SPIKE);
        Checks.same("9: solve to a SPIKE", x.solve(1), NONE);
        x.setCell(1, 2, 0, SpringLevels.SPRING);
        Checks.same("9: solve to a SPRING", x.solve(1), 2);
        Checks.draw(x, "S..F", "#..#");
        Checks.same("9: solve behind a hole", x.solve(2), NONE);
        x.setCell(2, 2, 1, SpringLevels.BLOCK);
        Checks.same("9: solve behind a smaller hole", x.solve(2), 3);
    }

    private static void promise9NoSuchLevel() {
        Checks.about("Promise 9", "Throws IndexOutOfBoundsException if there is no such level");
        SpringLevels x = two();
        for (int level : NO_LEVELS) {
            Checks.noSuch("9: solve(" + level + ")", () -> x.solve(level));
        }
        Checks.noSuch("9: solve(0) without a level", () -> new SpringLevels().solve(0));
        Checks.same("9: solve(1)", x.solve(1), NONE);
    }

    private static void promise9OfAllSixLevels() {
        Checks.about("Promise 9", "Finds the way of a level");
        SpringLevels x = new SpringLevels();
        for (int level = 0; level < 6; level++) {
            x.addLevel(7 + level, 8);
        }
        for (int level = 5; level >= 0; level--) {
            Checks.same("9: solve(" + level + ")", x.solve(level), 6 + level);
        }
        for (int level = 0; level < 6; level++) {
            Checks.same("10: way(" + level + ")", x.way(level), 6 + level);
        }
        Checks.noSuch("9: solve(6)", () -> x.solve(6));
    }

    private static void promise9OnALevelWithARun() {
        Checks.about("Promise 9", "Finds the way of a level");
        SpringLevels x = Checks.begun("...", "S.F", "###");
        Checks.draw(x, "F.S", "###");
        x.play(5);
        Checks.unchanged("9: solve", x, () -> Checks.same("9: solve", x.solve(0), 2));
        x.solve(1);
        Checks.goes(x, "0 0:2:1,0,0", "2 2:3:2,1,0");
        Checks.same("22: record", x.record(0, 0), 3);
    }

    private static void promise9IsNoOpening() {
        Checks.about("Promise 9", "Finds the way of a level");
        SpringLevels x = two();
        x.solve(0);
        Checks.same("12: isOpen", x.isOpen(0), false);
        x.open(0);
        x.solve(0);
        Checks.same("12: isOpen behind solve of what is open", x.isOpen(0), true);
    }

    // ---- promise 10

    private static void promise10NotFoundYet() {
        Checks.about("Promise 10", "NONE if there is none, or it was not found since the latest editing");
        SpringLevels x = new SpringLevels();
        x.addLevel(3, 3);
        Checks.same("10: way of a new level", x.way(0), NONE);
        Checks.same("9: solve", x.solve(0), 2);
        Checks.same("10: way", x.way(0), 2);
        x.addLevel(3, 3);
        Checks.same("10: way of another new level", x.way(1), NONE);
    }

    private static void promise10NoneWasFound() {
        Checks.about("Promise 10", "NONE if there is none, or it was not found since the latest editing");
        SpringLevels x = two();
        Checks.same("9: solve", x.solve(1), NONE);
        Checks.same("10: way", x.way(1), NONE);
        Checks.same("9: solve of the other", x.solve(0), 2);
        Checks.same("10: way", x.way(1), NONE);
    }

    private static void promise10NotFoundSinceTheLatestEditing() {
        Checks.about("Promise 10", "NONE if there is none, or it was not found since the latest editing");
        SpringLevels x = two();
        x.solve(0);
        x.setCell(0, 1, 0, SpringLevels.SPRING);
        Checks.same("10: way behind editing", x.way(0), NONE);
        Checks.same("9: solve", x.solve(0), 2);
        x.setCell(0, 1, 0, SpringLevels.BLOCK);
        x.solve(0);
        Checks.same("10: way of a level that has none any more", x.way(0), NONE);
        x.setCell(0, 1, 0, SpringLevels.EMPTY);
        Checks.same("10: way behind editing back", x.way(0), NONE);
    }

    private static void promise10BehindRefusedEditing() {
        Checks.about("Promise 10", "Returns the way of a level, as it was found last");
        SpringLevels x = two();
        x.solve(0);
        Checks.badArgument("3: setCell refused", () -> x.setCell(0, 1, 0, 4));
        Checks.badState("3: setCell refused", () -> x.setCell(0, 0, 0, SpringLevels.BLOCK));
        Checks.badArgument("6: grow refused", () -> x.grow(0, 65536));
        Checks.same("10: way", x.way(0), 2);
        Checks.same("11: open", x.open(0), false);
    }

    private static void promise10NoSuchLevel() {
        Checks.about("Promise 10", "Throws IndexOutOfBoundsException if there is no such level");
        SpringLevels x = two();
        for (int level : NO_LEVELS) {
            Checks.noSuch("10: way(" + level + ")", () -> x.way(level));
        }
        Checks.noSuch("10: way(0) without a level", () -> new SpringLevels().way(0));
    }

    // ---- promise 11

    private static long open(SpringLevels x, int level) {
        return x.open(level) ? 1 : 0;
    }

    private static void promise11TrueIfItWasOpen() {
        Checks.about("Promise 11", "Returns true if it was open");
        SpringLevels x = two();
        x.solve(0);
        Checks.same("11: open the first time", x.open(0), false);
        Checks.same("11: open the second time", x.open(0), true);
        x.setStart(0, 0, 0);
        x.solve(0);
        Checks.same("11: open behind editing and solve", x.open(0), false);
        Checks.same("11: open once more", x.open(0), true);
    }

    private static void promise11BeforeSolve() {
        Checks.about("Promise 11", "Throws IllegalStateException if way() of it is NONE");
        SpringLevels x = two();
        Checks.badState("11: open before solve", () -> open(x, 0));
        Checks.same("12: isOpen", x.isOpen(0), false);
        Checks.same("10: way", x.way(0), NONE);
    }

    private static void promise11WithoutAWay() {
        Checks.about("Promise 11", "Throws IllegalStateException if way() of it is NONE");
        SpringLevels x = two();
        x.solve(1);
        x.solve(0);
        Checks.badState("11: open without a way", () -> open(x, 1));
        Checks.same("12: isOpen", x.isOpen(1), false);
        Checks.badState("13: begin", () -> x.begin(0, 1));
    }

    private static void promise11BehindEditing() {
        Checks.about("Promise 11", "Throws IllegalStateException if way() of it is NONE");
        SpringLevels x = two();
        x.solve(0);
        x.open(0);
        x.setCell(0, 1, 0, SpringLevels.EMPTY);
        Checks.badState("11: open behind editing of what was open", () -> open(x, 0));
        x.solve(0);
        x.grow(0, 0);
        Checks.badState("11: open behind editing of what was solved", () -> open(x, 0));
    }

    private static void promise11NoSuchLevel() {
        Checks.about("Promise 11", "Throws IndexOutOfBoundsException if there is no such level");
        SpringLevels x = two();
        for (int level : NO_LEVELS) {
            Checks.noSuch("11: open(" + level + ")", () -> open(x, level));
        }
        Checks.noSuch("11: open(0) without a level", () -> open(new SpringLevels(), 0));
    }

    // ---- promise 12

    /** The level is never edited: no editing has closed it. */
    private static void promise12OfANewLevel() {
        Checks.about("Promise 12", "Returns true if it is");
        SpringLevels x = new SpringLevels();
        x.addLevel(3, 3);
        Checks.same("12: isOpen of a new level", x.isOpen(0), false);
        Checks.badState("13: begin on a new level", () -> x.begin(0, 0));
        Checks.badState("11: open of a new level", () -> open(x, 0));
        x.solve(0);
        Checks.badState("13: begin on a new level that is solved", () -> x.begin(0, 0));
        Checks.same("11: open the first time", x.open(0), false);
        Checks.same("12: isOpen behind open", x.isOpen(0), true);
    }

    private static void promise12TrueIfItIs() {
        Checks.about("Promise 12", "Returns true if it is");
        SpringLevels x = two();
        Checks.same("12: isOpen before solve", x.isOpen(0), false);
        x.solve(0);
        Checks.same("12: isOpen behind solve", x.isOpen(0), false);
        x.open(0);
        Checks.same("12: isOpen behind open", x.isOpen(0), true);
        x.begin(0, 0);
        Checks.playAll(x, "22");
        Checks.same("12: isOpen behind a WON run", x.isOpen(0), true);
        x.setFlag(0, 2, 0);
        Checks.same("12: isOpen behind editing", x.isOpen(0), false);
    }

    private static void promise12BehindARefusedOpen() {
        Checks.about("Promise 12", "Returns true if it is");
        SpringLevels x = two();
        Checks.badState("11: open refused", () -> open(x, 0));
        Checks.same("12: isOpen", x.isOpen(0), false);
        x.solve(0);
        Checks.same("12: isOpen behind solve", x.isOpen(0), false);
    }

    private static void promise12NoSuchLevel() {
        Checks.about("Promise 12", "Throws IndexOutOfBoundsException if there is no such level");
        SpringLevels x = two();
        for (int level : NO_LEVELS) {
            Checks.noSuch("12: isOpen(" + level + ")", () -> x.isOpen(level) ? 1 : 0);
        }
        Checks.noSuch("12: isOpen(0) without a level", () -> new SpringLevels().isOpen(0) ? 1 : 0);
    }
}
