/** The boundary cases of the promises 1 to 8: a test for each sentence that names one. */
public final class LimitsOfEditingTest {
    private static final int NONE = SpringLevels.NONE;
    private static final int EMPTY = SpringLevels.EMPTY;
    private static final int BLOCK = SpringLevels.BLOCK;
    private static final int SPIKE = SpringLevels.SPIKE;
    private static final int SPRING = SpringLevels.SPRING;
    private static final int[] FAR = {Integer.MIN_VALUE, -1000, 1000, Integer.MAX_VALUE};

    public static void main(String[] args) {
        promise1WithoutLevels();
        promise1WithoutARun();
        promise1EachObjectAnew();
        promise2LeastWidth();
        promise2LargestWidth();
        promise2LeastHeight();
        promise2LargestHeight();
        promise2CellsOfTheSmallestAndTheLargest();
        promise2StartAndFlag();
        promise2Numbers();
        promise2SixLevels();
        promise2SixLevelsAndASizeOutOfRange();
        promise3ReturnsTheKindBefore();
        promise3Corners();
        promise3NoSuchLevel();
        promise3NoSuchCell();
        promise3LeastAndLargestKind();
        promise3BlockAtTheStart();
        promise3BlockAtTheFlag();
        promise3OtherKindsAtStartAndFlag();
        promise3BlockWhereTheOtherLevelStarts();
        promise4Corners();
        promise4NoSuchLevelOrCell();
        promise4AtABlock();
        promise4AtSpikeAndSpring();
        promise4AtTheFlag();
        promise5Corners();
        promise5NoSuchLevelOrCell();
        promise5AtABlock();
        promise5AtSpikeAndSpring();
        promise5AtTheStart();
        promise6LeastSeed();
        promise6LargestSeed();
        promise6NoSuchLevel();
        promise6RemainderBy65536();
        promise6RemainderBy16();
        promise6KindOfEachRemainder();
        promise6RowByRowFromTheTop();
        promise6LowestRow();
        promise6StartAndFlagBecomeEmpty();
        promise6StartAndFlagInTheLowestRow();
        promise6ReturnsHowManyAreBlock();
        promise6OfEachSeed();
        promise7Corners();
        promise7NoSuchLevelOrCell();
        promise7OfARefusedCell();
        promise8From0To6();
        Checks.end("LimitsOfEditingTest");
    }

    // ---- promise 1

    private static void promise1WithoutLevels() {
        Checks.about("Promise 1", "Begins without levels");
        SpringLevels x = new SpringLevels();
        Checks.same("8: levels", x.levels(), 0);
        Checks.noSuch("7: cell(0, 0, 0)", () -> x.cell(0, 0, 0));
        Checks.noSuch("9: solve(0)", () -> x.solve(0));
        Checks.noSuch("10: way(0)", () -> x.way(0));
        Checks.noSuch("11: open(0)", () -> x.open(0) ? 1 : 0);
        Checks.noSuch("12: isOpen(0)", () -> x.isOpen(0) ? 1 : 0);
        Checks.noSuch("13: begin(0, 0)", () -> x.begin(0, 0));
        Checks.noSuch("22: record(0, 0)", () -> x.record(0, 0));
        Checks.noSuch("24: bestPlayer(0)", () -> x.bestPlayer(0));
        Checks.same("2: addLevel", x.addLevel(2, 2), 0);
    }

    private static void promise1WithoutARun() {
        Checks.about("Promise 1", "and without a run");
        SpringLevels x = new SpringLevels();
        Checks.same("15: state", x.state(), NONE);
        Checks.same("16: frames", x.frames(), NONE);
        Checks.same("17: heroX", x.heroX(), NONE);
        Checks.same("18: heroY", x.heroY(), NONE);
        Checks.same("19: lift", x.lift(), NONE);
        Checks.same("20: left", x.left(), NONE);
        Checks.same("21: hint", x.hint(), NONE);
        Checks.same("25: ghost", x.ghost(), NONE);
        Checks.badState("14: play(0)", () -> x.play(0));
    }

    private static void promise1EachObjectAnew() {
        Checks.about("Promise 1", "Begins without levels and without a run");
        SpringLevels other = Checks.begun("S.F", "###");
        SpringLevels x = new SpringLevels();
        Checks.same("8: levels", x.levels(), 0);
        Checks.same("15: state", x.state(), NONE);
        x.addLevel(5, 5);
        Checks.same("8: levels of the other object", other.levels(), 1);
        Checks.noSuch("7: cell of the other object", () -> other.cell(0, 4, 4));
    }

    // ---- promise 2

    private static void promise2LeastWidth() {
        Checks.about("Promise 2", "width: 2 to 12");
        SpringLevels x = new SpringLevels();
        Checks.badArgument("2: addLevel(1, 4)", () -> x.addLevel(1, 4));
        Checks.badArgument("2: addLevel(0, 4)", () -> x.addLevel(0, 4));
        Checks.badArgument("2: addLevel(-2, 4)", () -> x.addLevel(-2, 4));
        Checks.same("2: addLevel(2, 4)", x.addLevel(2, 4), 0);
        Checks.same("7: cells", Checks.cells(x, 0), "../../../##");
    }

    private static void promise2LargestWidth() {
        Checks.about("Promise 2", "width: 2 to 12");
        SpringLevels x = new SpringLevels();
        Checks.badArgument("2: addLevel(13, 4)", () -> x.addLevel(13, 4));
        for (int width : FAR) {
            Checks.badArgument("2: addLevel(" + width + ", 4)", () -> x.addLevel(width, 4));
        }
        Checks.same("2: addLevel(12, 2)", x.addLevel(12, 2), 0);
        Checks.same("7: cells", Checks.cells(x, 0), "............/############");
    }

    private static void promise2LeastHeight() {
        Checks.about("Promise 2", "height: 2 to 8");
        SpringLevels x = new SpringLevels();
        Checks.badArgument("2: addLevel(4, 1)", () -> x.addLevel(4, 1));
        Checks.badArgument("2: addLevel(4, 0)", () -> x.addLevel(4, 0));
        Checks.badArgument("2: addLevel(4, -2)", () -> x.addLevel(4, -2));
        Checks.same("2: addLevel(4, 2)", x.addLevel(4, 2), 0);
        Checks.same("7: cells", Checks.cells(x, 0), "..../####");
    }

    private static void promise2LargestHeight() {
        Checks.about("Promise 2", "height: 2 to 8");
        SpringLevels x = new SpringLevels();
        Checks.badArgument("2: addLevel(4, 9)", () -> x.addLevel(4, 9));
        Checks.badArgument("2: addLevel(9, 9)", () -> x.addLevel(9, 9));
        for (int height : FAR) {
            Checks.badArgument("2: addLevel(4, " + height + ")", () -> x.addLevel(4, height));
        }
        Checks.same("2: addLevel(3, 8)", x.addLevel(3, 8), 0);
        Checks.same("7: cells", Checks.cells(x, 0), ".../.../.../.../.../.../.../###");
    }

    private static void promise2CellsOfTheSmallestAndTheLargest() {
        Checks.about("Promise 2", "Adds a level whose cells are EMPTY, but for the lowest row, which is BLOCK");
        SpringLevels x = new SpringLevels();
        x.addLevel(2, 2);
        x.addLevel(12, 8);
        Checks.same("7: cells of the smallest", Checks.cells(x, 0), "../##");
        Checks.same("7: cells of the largest", Checks.cells(x, 1),
            "............/".repeat(7) + "############");
    }

    private static void promise2StartAndFlag() {
        Checks.about("Promise 2", "The start is the leftmost cell of the row above that, the flag the rightmost one");
        for (int[] size : new int[][] {{2, 2}, {12, 8}, {2, 8}, {12, 2}}) {
            SpringLevels x = new SpringLevels();
            int width = size[0];
            int row = size[1] - 2;
            x.addLevel(width, size[1]);
            Checks.badState("3: BLOCK at the start", () -> x.setCell(0, 0, row, BLOCK));
            Checks.badState("3: BLOCK at the flag", () -> x.setCell(0, width - 1, row, BLOCK));
            Checks.beginAgain(x);
            Checks.same("17: heroX", x.heroX(), 0);
            Checks.same("18: heroY", x.heroY(), row);
            Checks.same("9: solve", x.solve(0), width - 1);
            Checks.same("14: play", Checks.playAll(x, "2".repeat(width - 1)), SpringLevels.WON);
            Checks.same("17: heroX at the flag", x.heroX(), width - 1);
        }
    }

    private static void promise2Numbers() {
        Checks.about("Promise 2", "Returns its number");
        SpringLevels x = new SpringLevels();
        for (int level = 0; level < 6; level++) {
            Checks.badArgument("2: addLevel(1, 1)", () -> x.addLevel(1, 1));
            Checks.same("2: addLevel", x.addLevel(2 + level, 8 - level), level);
        }
        for (int level = 0; level < 6; level++) {
            Checks.same("7: cell of the lowest row", x.cell(level, 1 + level, 7 - level), BLOCK);
        }
    }

    private static SpringLevels six() {
        SpringLevels x = new SpringLevels();
        for (int level = 0; level < 6; level++) {
            x.addLevel(2, 2);
        }
        return x;
    }

    private static void promise2SixLevels() {
        Checks.about("Promise 2", "Throws IllegalStateException if there are 6 levels");
        SpringLevels x = six();
        Checks.unchanged("2: addLevel refused", x, () -> {
            Checks.badState("2: addLevel(2, 2) of a seventh", () -> x.addLevel(2, 2));
            Checks.badState("2: addLevel(12, 8) of a seventh", () -> x.addLevel(12, 8));
        });
        Checks.same("8: levels", x.levels(), 6);
    }

    private static void promise2SixLevelsAndASizeOutOfRange() {
        Checks.about("Promise 2", "Throws IllegalArgumentException if width or height is out of range");
        SpringLevels x = six();
        Checks.badArgument("2: addLevel(1, 2) of a seventh", () -> x.addLevel(1, 2));
        Checks.badArgument("2: addLevel(13, 2) of a seventh", () -> x.addLevel(13, 2));
        Checks.badArgument("2: addLevel(2, 1) of a seventh", () -> x.addLevel(2, 1));
        Checks.badArgument("2: addLevel(2, 9) of a seventh", () -> x.addLevel(2, 9));
    }

    // ---- promise 3

    private static SpringLevels small() {
        SpringLevels x = new SpringLevels();
        x.addLevel(4, 3);
        return x;
    }

    private static void promise3ReturnsTheKindBefore() {
        Checks.about("Promise 3", "Returns the kind before");
        int[] kinds = {EMPTY, BLOCK, SPIKE, SPRING};
        for (int before : kinds) {
            for (int after : kinds) {
                SpringLevels x = small();
                Checks.same("3: setCell the first time", x.setCell(0, 1, 0, before), EMPTY);
                Checks.same("3: setCell the second time", x.setCell(0, 1, 0, after), before);
                Checks.same("7: cell", x.cell(0, 1, 0), after);
            }
        }
    }

    private static void promise3Corners() {
        Checks.about("Promise 3", "Sets the kind of a cell");
        for (int[] size : new int[][] {{2, 2}, {12, 8}}) {
            SpringLevels x = new SpringLevels();
            x.addLevel(size[0], size[1]);
            int right = size[0] - 1;
            int lowest = size[1] - 1;
            Checks.same("3: setCell, top left", x.setCell(0, 0, 0, SPRING), EMPTY);
            Checks.same("3: setCell, top right", x.setCell(0, right, 0, SPIKE), EMPTY);
            Checks.same("3: setCell, lowest left", x.setCell(0, 0, lowest, SPIKE), BLOCK);
            Checks.same("3: setCell, lowest right", x.setCell(0, right, lowest, SPRING), BLOCK);
            String rows = Checks.cells(x, 0);
            Checks.same("7: the corners", "" + rows.charAt(0) + rows.charAt(right)
                + rows.charAt(rows.length() - 1 - right) + rows.charAt(rows.length() - 1), "o^^o");
            Checks.same("7: how many cells are SPIKE or SPRING", rows.replaceAll("[.#/]", "").length(), 4);
        }
    }

    private static void promise3NoSuchLevel() {
        Checks.about("Promise 3", "Throws IndexOutOfBoundsException if there is no such level or cell");
        SpringLevels x = small();
        x.addLevel(4, 3);
        for (int level : new int[] {-1, 2, 5, 6, Integer.MIN_VALUE, Integer.MAX_VALUE}) {
            Checks.noSuch("3: setCell(" + level + ", 0, 0, EMPTY)", () -> x.setCell(level, 0, 0, EMPTY));
        }
        Checks.same("3: setCell of the last level", x.setCell(1, 0, 0, SPIKE), EMPTY);
        Checks.same("7: cell of the first level", x.cell(0, 0, 0), EMPTY);
    }

    private static void promise3NoSuchCell() {
        Checks.about("Promise 3", "Throws IndexOutOfBoundsException if there is no such level or cell");
        SpringLevels x = small();
        for (int[] at : new int[][] {{-1, 0}, {4, 0}, {0, -1}, {0, 3}, {4, 3}, {-1, -1}, {-1, 1}, {4, 1},
            {11, 0}, {0, 7}, {12, 0}, {0, 8}, {Integer.MIN_VALUE, 0}, {0, Integer.MAX_VALUE}}) {
            Checks.noSuch("3: setCell(0, " + at[0] + ", " + at[1] + ", SPIKE)",
                () -> x.setCell(0, at[0], at[1], SPIKE));
        }
        Checks.same("7: cells", Checks.cells(x, 0), "..../..../####");
    }

    private static void promise3LeastAndLargestKind() {
        Checks.about("Promise 3", "Throws IllegalArgumentException if there is no such kind");
        SpringLevels x = small();
        for (int kind : new int[] {-1, 4, 5, Integer.MIN_VALUE, Integer.MAX_VALUE}) {
            Checks.badArgument("3: setCell(.., " + kind + ")", () -> x.setCell(0, 1, 1, kind));
            Checks.badArgument("3: setCell(.., " + kind + ") at the start", () -> x.setCell(0, 0, 1, kind));
            Checks.noSuch("3: setCell(.., " + kind + ") at no cell", () -> x.setCell(0, 4, 1, kind));
            Checks.noSuch("3: setCell(.., " + kind + ") of no level", () -> x.setCell(1, 1, 1, kind));
        }
        Checks.same("3: setCell(.., 0)", x.setCell(0, 1, 1, 0), EMPTY);
        Checks.same("3: setCell(.., 3)", x.setCell(0, 1, 1, 3), EMPTY);
        Checks.same("7: cell", x.cell(0, 1, 1), SPRING);
    }

    private static void promise3BlockAtTheStart() {
        Checks.about("Promise 3", "Throws IllegalStateException if it is to be BLOCK, and the start or the flag");
        SpringLevels x = small();
        Checks.badState("3: BLOCK at the start", () -> x.setCell(0, 0, 1, BLOCK));
        Checks.same("7: cell", x.cell(0, 0, 1), EMPTY);
        Checks.same("3: BLOCK above the start", x.setCell(0, 0, 0, BLOCK), EMPTY);
        Checks.same("3: BLOCK beside the start", x.setCell(0, 1, 1, BLOCK), EMPTY);
        x.setCell(0, 0, 1, SPRING);
        Checks.badState("3: BLOCK at the start, which is SPRING", () -> x.setCell(0, 0, 1, BLOCK));
        Checks.same("7: cell", x.cell(0, 0, 1), SPRING);
    }

    private static void promise3BlockAtTheFlag() {
        Checks.about("Promise 3", "Throws IllegalStateException if it is to be BLOCK, and the start or the flag");
        SpringLevels x = small();
        Checks.badState("3: BLOCK at the flag", () -> x.setCell(0, 3, 1, BLOCK));
        Checks.same("7: cell", x.cell(0, 3, 1), EMPTY);
        Checks.same("3: BLOCK above the flag", x.setCell(0, 3, 0, BLOCK), EMPTY);
        Checks.same("3: BLOCK beside the flag", x.setCell(0, 2, 1, BLOCK), EMPTY);
        x.setCell(0, 3, 1, SPIKE);
        Checks.badState("3: BLOCK at the flag, which is SPIKE", () -> x.setCell(0, 3, 1, BLOCK));
        Checks.same("7: cell", x.cell(0, 3, 1), SPIKE);
    }

    private static void promise3OtherKindsAtStartAndFlag() {
        Checks.about("Promise 3", "if it is to be BLOCK, and the start or the flag is there");
        SpringLevels x = small();
        for (int at : new int[] {0, 3}) {
            Checks.same("3: SPIKE", x.setCell(0, at, 1, SPIKE), EMPTY);
            Checks.same("3: SPRING", x.setCell(0, at, 1, SPRING), SPIKE);
            Checks.same("3: EMPTY", x.setCell(0, at, 1, EMPTY), SPRING);
        }
    }

    private static void promise3BlockWhereTheOtherLevelStarts() {
        Checks.about("Promise 3", "if it is to be BLOCK, and the start or the flag is there");
        SpringLevels x = small();
        x.addLevel(4, 5);
        Checks.same("3: BLOCK where the other level starts", x.setCell(1, 0, 1, BLOCK), EMPTY);
        Checks.badState("3: BLOCK where the level starts", () -> x.setCell(1, 0, 3, BLOCK));
    }

    // ---- promises 4 and 5

    private static long start(SpringLevels x, int level, int at, int y) {
        x.setStart(level, at, y);
        return 0;
    }

    private static long flag(SpringLevels x, int level, int at, int y) {
        x.setFlag(level, at, y);
        return 0;
    }

    private static final int[][] NO_CELLS = {{-1, 0, 0}, {2, 0, 0}, {6, 0, 0}, {0, -1, 0}, {0, 4, 0}, {0, 0, -1},
        {0, 0, 3}, {0, -1, 1}, {0, 4, -1}, {0, 11, 0}, {0, 0, 7}, {Integer.MIN_VALUE, 0, 0},
        {Integer.MAX_VALUE, 0, 0}, {0, Integer.MIN_VALUE, 0}, {0, Integer.MAX_VALUE, 0},
        {0, 0, Integer.MIN_VALUE}, {0, 0, Integer.MAX_VALUE}};

    private static final int[][] CORNERS = {{0, 0}, {3, 0}, {0, 2}, {3, 2}};

    private static void promise4Corners() {
        Checks.about("Promise 4", "Sets the start");
        for (int[] at : CORNERS) {
            SpringLevels x = small();
            x.setCell(0, at[0], at[1], EMPTY);
            x.setStart(0, at[0], at[1]);
            Checks.badState("3: BLOCK at the new start", () -> x.setCell(0, at[0], at[1], BLOCK));
            Checks.same("3: BLOCK at the old start", x.setCell(0, 0, 1, BLOCK), EMPTY);
        }
        SpringLevels x = small();
        x.setStart(0, 3, 0);
        x.setFlag(0, 0, 0);
        x.setCell(0, 0, 1, BLOCK);
        Checks.beginAgain(x);
        Checks.same("17: heroX", x.heroX(), 3);
        Checks.same("18: heroY", x.heroY(), 0);
    }

    private static void promise4NoSuchLevelOrCell() {
        Checks.about("Promise 4", "Throws IndexOutOfBoundsException if there is no such level or cell");
        SpringLevels x = small();
        x.addLevel(12, 8);
        for (int[] at : NO_CELLS) {
            Checks.noSuch("4: setStart(" + at[0] + ", " + at[1] + ", " + at[2] + ")",
                () -> start(x, at[0], at[1], at[2]));
        }
        Checks.beginAgain(x);
        Checks.same("13 to 19: the hero at the old start", Checks.hero(x), "0:0:0,1,0");
    }

    private static void promise4AtABlock() {
        Checks.about("Promise 4", "Throws IllegalStateException if the cell is BLOCK");
        SpringLevels x = small();
        x.setCell(0, 1, 0, BLOCK);
        Checks.badState("4: setStart in the lowest row", () -> start(x, 0, 0, 2));
        Checks.badState("4: setStart at a BLOCK", () -> start(x, 0, 1, 0));
        Checks.beginAgain(x);
        Checks.same("13 to 19: the hero at the old start", Checks.hero(x), "0:0:0,1,0");
        x.setCell(0, 1, 0, EMPTY);
        Checks.same("4: setStart where the BLOCK was", start(x, 0, 1, 0), 0);
    }

    private static void promise4AtSpikeAndSpring() {
        Checks.about("Promise 4", "Throws IllegalStateException if the cell is BLOCK");
        SpringLevels x = small();
        x.setCell(0, 1, 1, SPIKE);
        x.setCell(0, 2, 1, SPRING);
        x.setStart(0, 1, 1);
        Checks.beginAgain(x);
        Checks.same("13 to 19: the hero", Checks.hero(x), "0:0:1,1,0");
        x.setStart(0, 2, 1);
        Checks.beginAgain(x);
        Checks.same("13 to 19: the hero", Checks.hero(x), "0:0:2,1,0");
        Checks.same("7: cells", Checks.cells(x, 0), "..../.^o./####");
    }

    private static void promise4AtTheFlag() {
        Checks.about("Promise 4", "Sets the start");
        SpringLevels x = small();
        x.setStart(0, 3, 1);
        Checks.same("9: solve", x.solve(0), 1);
        x.setStart(0, 3, 1);
        Checks.same("10: way behind setStart where it is", x.way(0), NONE);
    }

    private static void promise5Corners() {
        Checks.about("Promise 5", "Sets the flag");
        for (int[] at : CORNERS) {
            SpringLevels x = small();
            x.setCell(0, at[0], at[1], EMPTY);
            x.setFlag(0, at[0], at[1]);
            Checks.badState("3: BLOCK at the new flag", () -> x.setCell(0, at[0], at[1], BLOCK));
            Checks.same("3: BLOCK at the old flag", x.setCell(0, 3, 1, BLOCK), EMPTY);
        }
        SpringLevels x = small();
        x.setCell(0, 3, 2, EMPTY);
        x.setFlag(0, 3, 2);
        Checks.beginAgain(x);
        Checks.same("14: play to a flag in the lowest row", Checks.playAll(x, "222"), SpringLevels.WON);
        Checks.same("18: heroY", x.heroY(), 2);
    }

    private static void promise5NoSuchLevelOrCell() {
        Checks.about("Promise 5", "Throws IndexOutOfBoundsException if there is no such level or cell");
        SpringLevels x = small();
        x.addLevel(12, 8);
        for (int[] at : NO_CELLS) {
            Checks.noSuch("5: setFlag(" + at[0] + ", " + at[1] + ", " + at[2] + ")",
                () -> flag(x, at[0], at[1], at[2]));
        }
        Checks.same("9: solve to the old flag", x.solve(0), 3);
    }

    private static void promise5AtABlock() {
        Checks.about("Promise 5", "Throws IllegalStateException if the cell is BLOCK");
        SpringLevels x = small();
        x.setCell(0, 1, 0, BLOCK);
        Checks.badState("5: setFlag in the lowest row", () -> flag(x, 0, 3, 2));
        Checks.badState("5: setFlag at a BLOCK", () -> flag(x, 0, 1, 0));
        Checks.same("9: solve to the old flag", x.solve(0), 3);
        x.setCell(0, 1, 0, EMPTY);
        Checks.same("5: setFlag where the BLOCK was", flag(x, 0, 1, 0), 0);
        Checks.same("9: solve to the new flag", x.solve(0), 1);
    }

    private static void promise5AtSpikeAndSpring() {
        Checks.about("Promise 5", "Throws IllegalStateException if the cell is BLOCK");
        SpringLevels x = small();
        x.setCell(0, 1, 1, SPIKE);
        x.setCell(0, 2, 1, SPRING);
        x.setFlag(0, 1, 1);
        Checks.same("9: solve to a SPIKE", x.solve(0), NONE);
        x.setCell(0, 1, 1, EMPTY);
        x.setFlag(0, 2, 1);
        Checks.same("9: solve to a SPRING", x.solve(0), 2);
        Checks.same("7: cells", Checks.cells(x, 0), "..../..o./####");
    }

    private static void promise5AtTheStart() {
        Checks.about("Promise 5", "Sets the flag");
        SpringLevels x = small();
        x.setFlag(0, 0, 1);
        Checks.same("9: solve", x.solve(0), 1);
        x.setFlag(0, 0, 1);
        Checks.same("10: way behind setFlag where it is", x.way(0), NONE);
    }

    // ---- promise 6

    private static void grows(int width, int height, int seed, int blocks, String cells) {
        SpringLevels x = new SpringLevels();
        x.addLevel(width, height);
        Checks.same("6: grow(0, " + seed + ")", x.grow(0, seed), blocks);
        Checks.same("7: cells of seed " + seed, Checks.cells(x, 0), cells);
    }

    private static void promise6LeastSeed() {
        Checks.about("Promise 6", "seed: 0 to 65535");
        SpringLevels x = small();
        Checks.badArgument("6: grow(0, -1)", () -> x.grow(0, -1));
        Checks.badArgument("6: grow(0, MIN_VALUE)", () -> x.grow(0, Integer.MIN_VALUE));
        Checks.same("7: cells", Checks.cells(x, 0), "..../..../####");
        grows(3, 3, 0, 4, "#../.../###");
    }

    private static void promise6LargestSeed() {
        Checks.about("Promise 6", "seed: 0 to 65535");
        SpringLevels x = small();
        Checks.badArgument("6: grow(0, 65536)", () -> x.grow(0, 65536));
        Checks.badArgument("6: grow(0, MAX_VALUE)", () -> x.grow(0, Integer.MAX_VALUE));
        Checks.same("7: cells", Checks.cells(x, 0), "..../..../####");
        grows(3, 3, 65535, 4, ".../.#./###");
        grows(3, 3, 65534, 4, ".#./.../###");
    }

    private static void promise6NoSuchLevel() {
        Checks.about("Promise 6", "Throws IndexOutOfBoundsException if there is no such level");
        SpringLevels x = small();
        for (int level : new int[] {-1, 1, 5, 6, Integer.MIN_VALUE, Integer.MAX_VALUE}) {
            Checks.noSuch("6: grow(" + level + ", 0)", () -> x.grow(level, 0));
            Checks.noSuch("6: grow(" + level + ", 65536)", () -> x.grow(level, 65536));
            Checks.noSuch("6: grow(" + level + ", -1)", () -> x.grow(level, -1));
        }
        Checks.same("7: cells", Checks.cells(x, 0), "..../..../####");
    }

    /** Up to seed 48 the first n stays below 65536; from 49 on it goes round. Seed 34569 makes it 0, 62554 65535. */
    private static void promise6RemainderBy65536() {
        Checks.about("Promise 6", "n becomes the remainder of n * 1103 + 12345 by 65536");
        grows(3, 3, 48, 6, "###/.../###");
        grows(3, 3, 49, 4, "o.#/.../###");
        grows(3, 3, 34569, 5, "##./.../###");
        grows(3, 3, 62554, 3, ".../.../###");
    }

    /** The seeds make the first n 255, 256, 15 and 16. */
    private static void promise6RemainderBy16() {
        Checks.about("Promise 6", "r is the remainder of n / 16 by 16");
        grows(3, 3, 41818, 3, ".../.../###");
        grows(3, 3, 13833, 5, "##./.../###");
        grows(3, 3, 8010, 4, "#../.../###");
        grows(3, 3, 45561, 5, "##./.../###");
    }

    /** The first n of these seeds gives r 0 to 15; then those that make n 63, 64, 79, 80, 95, 96. */
    private static void promise6KindOfEachRemainder() {
        Checks.about("Promise 6", "the cell is BLOCK for r 0 to 3, SPIKE for 4, SPRING for 5, otherwise EMPTY");
        int[] seeds = {9, 6, 3, 0, 10, 23, 7, 4, 1, 11, 24, 8, 5, 2, 12, 25, 40986, 13001, 51978, 23993, 62970, 34985};
        String kinds = "####^o..........#^^oo.";
        for (int i = 0; i < seeds.length; i++) {
            SpringLevels x = small();
            x.grow(0, seeds[i]);
            Checks.same("7: the first cell of seed " + seeds[i], x.cell(0, 0, 0), ".#^o".indexOf(kinds.charAt(i)));
        }
    }

    private static void promise6RowByRowFromTheTop() {
        Checks.about("Promise 6", "for each cell, row by row from the top, each from the left");
        grows(12, 8, 0, 31, "#......^.##./o....o.##.^./.....####.../...^.##.o.../.o.##.^...../.####......^/"
            + ".##.o....o../############");
        grows(12, 8, 65535, 31, "....#^..##../^#.....o..##/..##..o...../#^..##..^#../...o..##..##/..o.....#^../"
            + ".#..^#....../############");
        grows(2, 8, 0, 5, "#./../../.^/.#/#./../##");
    }

    private static void promise6LowestRow() {
        Checks.about("Promise 6", "In the lowest row all cells are BLOCK instead");
        grows(12, 2, 0, 14, ".......^.##./############");
        SpringLevels x = small();
        for (int at = 0; at < 4; at++) {
            x.setCell(0, at, 2, at);
        }
        x.grow(0, 7);
        for (int at = 0; at < 4; at++) {
            Checks.same("7: cell of the lowest row", x.cell(0, at, 2), BLOCK);
        }
    }

    private static void promise6StartAndFlagBecomeEmpty() {
        Checks.about("Promise 6", "Then the cells of start and flag become EMPTY");
        grows(2, 2, 0, 2, "../##");
        SpringLevels x = new SpringLevels();
        x.addLevel(3, 3);
        x.setStart(0, 0, 0);
        x.setFlag(0, 1, 0);
        Checks.same("6: grow(0, 48)", x.grow(0, 48), 4);
        Checks.same("7: cells", Checks.cells(x, 0), "..#/.../###");
        x.setFlag(0, 0, 0);
        Checks.same("6: grow(0, 48) with both at one cell", x.grow(0, 48), 5);
        Checks.same("7: cells", Checks.cells(x, 0), ".##/.../###");
        x.setCell(0, 0, 0, SPIKE);
        x.grow(0, 48);
        Checks.same("7: the cell of start and flag, which was SPIKE", x.cell(0, 0, 0), EMPTY);
    }

    private static void promise6StartAndFlagInTheLowestRow() {
        Checks.about("Promise 6", "Then the cells of start and flag become EMPTY");
        SpringLevels x = new SpringLevels();
        x.addLevel(3, 3);
        x.setCell(0, 1, 2, SPRING);
        x.setCell(0, 2, 2, SPIKE);
        x.setStart(0, 1, 2);
        Checks.same("6: grow(0, 48), the start in the lowest row", x.grow(0, 48), 5);
        Checks.same("7: cells", Checks.cells(x, 0), "###/.../#.#");
        x.setCell(0, 2, 2, SPIKE);
        x.setFlag(0, 2, 2);
        Checks.same("6: grow(0, 48), both in the lowest row", x.grow(0, 48), 4);
        Checks.same("7: cells", Checks.cells(x, 0), "###/.../#..");
    }

    private static void promise6ReturnsHowManyAreBlock() {
        Checks.about("Promise 6", "Returns how many cells are BLOCK");
        grows(2, 2, 65535, 2, "../##");
        grows(3, 3, 62554, 3, ".../.../###");
        grows(3, 3, 48, 6, "###/.../###");
    }

    /** All 65536 seeds on a level of 5 x 2, whose start and flag are the ends of the upper row. */
    private static void promise6OfEachSeed() {
        Checks.about("Promise 6", "seed: 0 to 65535");
        SpringLevels x = new SpringLevels();
        for (int seed = 0; seed <= 65535; seed++) {
            if (seed % 256 == 0) {
                x = new SpringLevels();
                x.addLevel(5, 2);
            }
            Checks.same("6: grow(0, " + seed + ")", x.grow(0, seed), 5 + blocksOfTheUpperRow(seed));
        }
    }

    private static int blocksOfTheUpperRow(int seed) {
        long n = seed;
        int blocks = 0;
        for (int at = 0; at < 5; at++) {
            n = Math.floorMod(n * 1103L + 12345L, 65536L);
            blocks += at > 0 && at < 4 && n / 16 % 16 < 4 ? 1 : 0;
        }
        return blocks;
    }

    // ---- promises 7 and 8

    private static void promise7Corners() {
        Checks.about("Promise 7", "Returns the kind of a cell");
        SpringLevels x = new SpringLevels();
        x.addLevel(12, 8);
        x.setCell(0, 0, 0, SPIKE);
        x.setCell(0, 11, 0, SPRING);
        x.setCell(0, 0, 7, EMPTY);
        Checks.same("7: top left", x.cell(0, 0, 0), SPIKE);
        Checks.same("7: top right", x.cell(0, 11, 0), SPRING);
        Checks.same("7: lowest left", x.cell(0, 0, 7), EMPTY);
        Checks.same("7: lowest right", x.cell(0, 11, 7), BLOCK);
        Checks.same("7: the start", x.cell(0, 0, 6), EMPTY);
        Checks.same("7: the flag", x.cell(0, 11, 6), EMPTY);
    }

    private static void promise7NoSuchLevelOrCell() {
        Checks.about("Promise 7", "Throws IndexOutOfBoundsException if there is no such level or cell");
        SpringLevels x = small();
        x.addLevel(12, 8);
        for (int[] at : NO_CELLS) {
            Checks.noSuch("7: cell(" + at[0] + ", " + at[1] + ", " + at[2] + ")", () -> x.cell(at[0], at[1], at[2]));
        }
        Checks.noSuch("7: cell(1, 12, 7)", () -> x.cell(1, 12, 7));
        Checks.noSuch("7: cell(1, 11, 8)", () -> x.cell(1, 11, 8));
        Checks.same("7: cell(1, 11, 7)", x.cell(1, 11, 7), BLOCK);
    }

    private static void promise7OfARefusedCell() {
        Checks.about("Promise 7", "Returns the kind of a cell");
        SpringLevels x = Checks.begun("S.F", "###");
        x.play(2);
        Checks.unchanged("7: cell", x, () -> {
            Checks.same("7: cell", x.cell(0, 1, 1), BLOCK);
            Checks.noSuch("7: cell of no cell", () -> x.cell(0, 3, 1));
        });
    }

    private static void promise8From0To6() {
        Checks.about("Promise 8", "Returns 0 to 6");
        SpringLevels x = new SpringLevels();
        Checks.same("8: levels", x.levels(), 0);
        for (int level = 1; level <= 6; level++) {
            Checks.badArgument("2: addLevel(2, 1)", () -> x.addLevel(2, 1));
            Checks.same("8: levels behind a refused addLevel", x.levels(), level - 1);
            x.addLevel(2, 2);
            Checks.same("8: levels", x.levels(), level);
        }
        Checks.badState("2: addLevel of a seventh", () -> x.addLevel(2, 2));
        Checks.same("8: levels", x.levels(), 6);
    }
}
