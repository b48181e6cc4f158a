/** Promises 1 to 8: a new object, addLevel, setCell, setStart, setFlag, grow, cell and levels. */
public final class EditingTest {
    private static final int NONE = SpringLevels.NONE;
    private static final int EMPTY = SpringLevels.EMPTY;
    private static final int BLOCK = SpringLevels.BLOCK;
    private static final int SPIKE = SpringLevels.SPIKE;
    private static final int SPRING = SpringLevels.SPRING;

    public static void main(String[] args) {
        promise1NewObject();
        promise2AddLevel();
        promise2AddLevelRefused();
        promise3SetCell();
        promise3SetCellRefused();
        promise4SetStart();
        promise5SetFlag();
        promises4And5Refused();
        promise6Grow();
        promise6GrowKeepsStartAndFlag();
        promise6GrowRefused();
        promise7Cell();
        promise8Levels();
        editingVoids();
        Checks.end("EditingTest");
    }

    private static void promise1NewObject() {
        SpringLevels x = new SpringLevels();
        Checks.same("1: a new object", Checks.picture(x),
            "state -1 frames -1 hero -1,-1 lift -1 left -1 hint -1 ghost -1 levels 0");
        Checks.noSuch("1: cell(0, 0, 0)", () -> x.cell(0, 0, 0));
        Checks.noSuch("1: solve(0)", () -> x.solve(0));
        Checks.badState("1: play(0)", () -> x.play(0));
        x.addLevel(3, 3);
        Checks.same("1: levels() of another new object", new SpringLevels().levels(), 0);
    }

    private static void promise2AddLevel() {
        SpringLevels x = new SpringLevels();
        int[][] sizes = {{2, 2}, {12, 8}, {2, 8}, {12, 2}, {5, 4}, {3, 3}};
        for (int level = 0; level < 6; level++) {
            Checks.same("2: addLevel", x.addLevel(sizes[level][0], sizes[level][1]), level);
        }
        Checks.same("2: cells", Checks.cells(x, 0), "../##");
        Checks.same("2: cells", Checks.cells(x, 3), "............/############");
        Checks.same("2: cells", Checks.cells(x, 4), "...../...../...../#####");
        for (int level = 0; level < 6; level++) {
            startAndFlagAreAtTheEnds(x, level, sizes[level][0], sizes[level][1]);
        }
    }

    private static void startAndFlagAreAtTheEnds(SpringLevels x, int level, int width, int height) {
        Checks.same("2: way() of a new level", x.way(level), NONE);
        Checks.same("2: isOpen() of a new level", x.isOpen(level), false);
        Checks.same("2: bestPlayer() of a new level", x.bestPlayer(level), NONE);
        Checks.same("2: solve() of a new level", x.solve(level), width - 1);
        x.open(level);
        Checks.same("2: begin", x.begin(0, level), 0);
        Checks.same("2: heroY", x.heroY(), height - 2);
        for (int right = 1; right < width; right++) {
            Checks.same("2: play(2)", x.play(2), right == width - 1 ? SpringLevels.WON : SpringLevels.RUNNING);
        }
    }

    private static void promise2AddLevelRefused() {
        SpringLevels x = new SpringLevels();
        Checks.drawOpen(x, "S.F", "###");
        int[] wrongWidths = {1, 13, 0, -1, Integer.MIN_VALUE, Integer.MAX_VALUE};
        int[] wrongHeights = {1, 9, 0, -1, Integer.MIN_VALUE, Integer.MAX_VALUE};
        Checks.unchanged("2: addLevel refused", x, () -> {
            for (int i = 0; i < 6; i++) {
                int width = wrongWidths[i];
                int height = wrongHeights[i];
                Checks.badArgument("2: addLevel(" + width + ", 5)", () -> x.addLevel(width, 5));
                Checks.badArgument("2: addLevel(5, " + height + ")", () -> x.addLevel(5, height));
            }
        });
        for (int level = 1; level < 6; level++) {
            x.addLevel(2, 2);
        }
        Checks.unchanged("2: addLevel when there are 6", x, () -> {
            Checks.badState("2: addLevel(5, 4) of a seventh", () -> x.addLevel(5, 4));
            Checks.badArgument("2: addLevel(13, 4) of a seventh", () -> x.addLevel(13, 4));
            Checks.badArgument("2: addLevel(5, 1) of a seventh", () -> x.addLevel(5, 1));
        });
    }

    private static void promise3SetCell() {
        SpringLevels x = new SpringLevels();
        x.addLevel(3, 4);
        Checks.same("3: setCell(0, 1, 1, BLOCK)", x.setCell(0, 1, 1, BLOCK), EMPTY);
        Checks.same("3: setCell(0, 1, 1, SPIKE)", x.setCell(0, 1, 1, SPIKE), BLOCK);
        Checks.same("3: setCell(0, 1, 1, SPRING)", x.setCell(0, 1, 1, SPRING), SPIKE);
        Checks.same("3: setCell(0, 1, 1, SPRING)", x.setCell(0, 1, 1, SPRING), SPRING);
        Checks.same("3: setCell(0, 1, 1, EMPTY)", x.setCell(0, 1, 1, EMPTY), SPRING);
        Checks.same("3: setCell(0, 2, 3, SPIKE)", x.setCell(0, 2, 3, SPIKE), BLOCK);
        Checks.same("3: setCell(0, 0, 0, SPRING)", x.setCell(0, 0, 0, SPRING), EMPTY);
        Checks.same("3: setCell of the start", x.setCell(0, 0, 2, SPIKE), EMPTY);
        Checks.same("3: setCell of the flag", x.setCell(0, 2, 2, SPRING), EMPTY);
        Checks.same("3: cells", Checks.cells(x, 0), "o../.../^.o/##^");
        Checks.same("3: setCell in the column of the start", x.setCell(0, 0, 1, BLOCK), EMPTY);
        Checks.same("3: setCell in the row of start and flag", x.setCell(0, 1, 2, BLOCK), EMPTY);
        x.addLevel(3, 4);
        Checks.same("3: cells of another level", Checks.cells(x, 1), ".../.../.../###");
    }

    private static void promise3SetCellRefused() {
        SpringLevels x = new SpringLevels();
        Checks.drawOpen(x, "..F", "S..", "###");
        x.begin(1, 0);
        Checks.unchanged("3: setCell refused", x, () -> {
            int[][] places = {{-1, 0, 0}, {1, 0, 0}, {6, 0, 0}, {0, -1, 0}, {0, 3, 0}, {0, 0, -1}, {0, 0, 3},
                {Integer.MIN_VALUE, 0, 0}, {0, Integer.MAX_VALUE, 0}, {0, 0, Integer.MIN_VALUE}};
            for (int[] at : places) {
                Checks.noSuch("3: setCell of no cell", () -> x.setCell(at[0], at[1], at[2], EMPTY));
            }
            Checks.noSuch("3: setCell of no cell and no kind", () -> x.setCell(0, 3, 0, 4));
            Checks.badArgument("3: kind 4", () -> x.setCell(0, 1, 1, 4));
            Checks.badArgument("3: kind -1", () -> x.setCell(0, 1, 1, -1));
            Checks.badArgument("3: kind 4 at the start", () -> x.setCell(0, 0, 1, 4));
            Checks.badState("3: BLOCK at the start", () -> x.setCell(0, 0, 1, BLOCK));
            Checks.badState("3: BLOCK at the flag", () -> x.setCell(0, 2, 0, BLOCK));
        });
    }

    private static void promise4SetStart() {
        SpringLevels x = new SpringLevels();
        x.addLevel(4, 3);
        x.setStart(0, 2, 0);
        Checks.same("4: setCell(.., BLOCK) where the start was", x.setCell(0, 0, 1, BLOCK), EMPTY);
        Checks.badState("4: setCell(.., BLOCK) where the start is", () -> x.setCell(0, 2, 0, BLOCK));
        Checks.same("4: solve", x.solve(0), 1);
        x.open(0);
        Checks.same("4: begin", x.begin(0, 0), 2);
        Checks.same("4: heroY", x.heroY(), 0);
        x.setCell(0, 1, 2, SPIKE);
        x.setStart(0, 1, 2);
        x.setStart(0, 3, 1);
        Checks.same("4: solve with the start at the flag", x.solve(0), 1);
        x.setCell(0, 1, 1, SPRING);
        x.setStart(0, 1, 1);
        Checks.same("4: a start at a SPRING", x.cell(0, 1, 1), SPRING);
        Checks.same("4: solve from a SPRING", x.solve(0), 2);
    }

    private static void promise5SetFlag() {
        SpringLevels x = new SpringLevels();
        x.addLevel(4, 3);
        x.setFlag(0, 1, 0);
        Checks.same("5: setCell(.., BLOCK) where the flag was", x.setCell(0, 3, 1, BLOCK), EMPTY);
        Checks.badState("5: setCell(.., BLOCK) where the flag is", () -> x.setCell(0, 1, 0, BLOCK));
        Checks.same("5: solve", x.solve(0), 1);
        x.setFlag(0, 2, 1);
        Checks.same("5: solve", x.solve(0), 2);
        x.setFlag(0, 0, 1);
        Checks.same("5: solve with the flag at the start", x.solve(0), 1);
        x.setCell(0, 2, 2, EMPTY);
        x.setFlag(0, 2, 2);
        Checks.same("5: solve with the flag in the lowest row", x.solve(0), 2);
        x.setCell(0, 2, 2, SPIKE);
        Checks.same("5: solve with the flag at a SPIKE", x.solve(0), NONE);
    }

    private static void promises4And5Refused() {
        SpringLevels x = new SpringLevels();
        Checks.drawOpen(x, "..F", "S#.", "###");
        x.begin(1, 0);
        int[][] places = {{-1, 0, 0}, {1, 0, 0}, {6, 0, 0}, {0, -1, 0}, {0, 3, 0}, {0, 0, -1}, {0, 0, 3},
            {Integer.MAX_VALUE, 0, 0}, {0, Integer.MIN_VALUE, 0}, {0, 0, Integer.MAX_VALUE}};
        Checks.unchanged("4 and 5: refused", x, () -> {
            for (int[] at : places) {
                Checks.noSuch("4: setStart of no cell", () -> start(x, at[0], at[1], at[2]));
                Checks.noSuch("5: setFlag of no cell", () -> flag(x, at[0], at[1], at[2]));
            }
            Checks.badState("4: setStart at BLOCK", () -> start(x, 0, 1, 1));
            Checks.badState("5: setFlag at BLOCK", () -> flag(x, 0, 2, 2));
        });
        Checks.badState("4: the start is still there", () -> x.setCell(0, 0, 1, BLOCK));
        Checks.badState("5: the flag is still there", () -> x.setCell(0, 2, 0, BLOCK));
    }

    private static int start(SpringLevels x, int level, int at, int y) {
        x.setStart(level, at, y);
        return 0;
    }

    private static int flag(SpringLevels x, int level, int at, int y) {
        x.setFlag(level, at, y);
        return 0;
    }

    private static void promise6Grow() {
        growIs(4, 4, 0, 7, "#.../...^/.##./####");
        growIs(5, 4, 1, 8, ".#o.#/...../.#.o./#####");
        growIs(6, 5, 65535, 11, "....#^/..##../^#..../.o..#./######");
        growIs(12, 8, 7, 32, ".....o#..##./.#o.....#..^/#..#^..#..../.o#..##..#o./....#..^#..#/"
            + "^..#.....o#./.##..#o...../############");
    }

    private static void growIs(int width, int height, int seed, int blocks, String cells) {
        SpringLevels x = new SpringLevels();
        x.addLevel(width, height);
        x.setCell(0, 1, 0, SPRING);
        x.setCell(0, 1, height - 1, EMPTY);
        Checks.same("6: grow(0, " + seed + ")", x.grow(0, seed), blocks);
        Checks.same("6: cells of seed " + seed, Checks.cells(x, 0), cells);
        Checks.same("6: grow again", x.grow(0, seed), blocks);
        Checks.same("6: cells of seed " + seed + " again", Checks.cells(x, 0), cells);
    }

    private static void promise6GrowKeepsStartAndFlag() {
        SpringLevels x = new SpringLevels();
        x.addLevel(4, 4);
        x.addLevel(4, 4);
        x.setCell(0, 1, 3, SPRING);
        x.setStart(0, 1, 3);
        x.setFlag(0, 0, 0);
        Checks.same("6: grow with the start in the lowest row", x.grow(0, 0), 5);
        Checks.same("6: cells, EMPTY at start and flag", Checks.cells(x, 0), "..../...^/.##./#.##");
        Checks.badState("6: the start is still there", () -> x.setCell(0, 1, 3, BLOCK));
        Checks.badState("6: the flag is still there", () -> x.setCell(0, 0, 0, BLOCK));
        Checks.same("6: cells of another level", Checks.cells(x, 1), "..../..../..../####");
    }

    private static void promise6GrowRefused() {
        SpringLevels x = new SpringLevels();
        Checks.drawOpen(x, "S.F", "###");
        x.begin(2, 0);
        Checks.unchanged("6: grow refused", x, () -> {
            Checks.noSuch("6: grow(1, 0)", () -> x.grow(1, 0));
            Checks.noSuch("6: grow(-1, 0)", () -> x.grow(-1, 0));
            Checks.noSuch("6: grow(1, -1)", () -> x.grow(1, -1));
            Checks.badArgument("6: grow(0, -1)", () -> x.grow(0, -1));
            Checks.badArgument("6: grow(0, 65536)", () -> x.grow(0, 65536));
            Checks.badArgument("6: grow(0, MIN)", () -> x.grow(0, Integer.MIN_VALUE));
        });
    }

    private static void promise7Cell() {
        SpringLevels x = new SpringLevels();
        Checks.drawOpen(x, "o.F", "S^.", "##.");
        int[] kinds = {SPRING, EMPTY, EMPTY, EMPTY, SPIKE, EMPTY, BLOCK, BLOCK, EMPTY};
        for (int i = 0; i < 9; i++) {
            Checks.same("7: cell", x.cell(0, i % 3, i / 3), kinds[i]);
        }
        Checks.unchanged("7: cell refused", x, () -> {
            int[][] places = {{-1, 0, 0}, {1, 0, 0}, {5, 0, 0}, {6, 0, 0}, {0, -1, 0}, {0, 3, 0}, {0, 0, -1},
                {0, 0, 3}, {0, 3, -1}, {Integer.MIN_VALUE, 0, 0}, {0, Integer.MAX_VALUE, 0},
                {0, 0, Integer.MAX_VALUE}};
            for (int[] at : places) {
                Checks.noSuch("7: cell of no cell", () -> x.cell(at[0], at[1], at[2]));
            }
        });
        Checks.same("7: cell is no editing", x.isOpen(0), true);
    }

    private static void promise8Levels() {
        SpringLevels x = new SpringLevels();
        for (int level = 0; level < 6; level++) {
            Checks.same("8: levels()", x.levels(), level);
            x.addLevel(2 + level, 2 + level);
        }
        Checks.same("8: levels()", x.levels(), 6);
        Checks.badState("8: addLevel of a seventh", () -> x.addLevel(2, 2));
        Checks.same("8: levels()", x.levels(), 6);
    }

    private interface Edit {
        void on(SpringLevels x, int level);
    }

    private static void editingVoids() {
        editingVoids("setCell", (x, level) -> x.setCell(level, 1, 0, SPIKE));
        editingVoids("setCell of the kind that is there", (x, level) -> x.setCell(level, 1, 0, EMPTY));
        editingVoids("setStart", (x, level) -> x.setStart(level, 1, 0));
        editingVoids("setStart where it is", (x, level) -> x.setStart(level, 0, 0));
        editingVoids("setFlag", (x, level) -> x.setFlag(level, 1, 0));
        editingVoids("setFlag where it is", (x, level) -> x.setFlag(level, 2, 0));
        editingVoids("grow", (x, level) -> x.grow(level, 5));
    }

    /** The edited level loses its way, opening, records and run; the other one keeps them. */
    private static void editingVoids(String what, Edit edit) {
        for (int runOn = 0; runOn < 2; runOn++) {
            for (boolean over : new boolean[] {false, true}) {
                SpringLevels x = twoPlayedLevels();
                x.begin(2, runOn);
                Checks.playAll(x, over ? "22" : "2");
                String run = Checks.runPicture(x);
                edit.on(x, 0);
                Checks.same(what + ": way", x.way(0), NONE);
                Checks.same(what + ": isOpen", x.isOpen(0), false);
                Checks.same(what + ": bestPlayer", x.bestPlayer(0), NONE);
                for (int player = 0; player < 4; player++) {
                    Checks.same(what + ": record", x.record(0, player), NONE);
                    Checks.same(what + ": half", x.half(0, player), NONE);
                    Checks.same(what + ": replay", x.replay(0, player), NONE);
                }
                Checks.badState(what + ": open", () -> x.open(0) ? 1 : 0);
                Checks.badState(what + ": begin", () -> x.begin(0, 0));
                Checks.same(what + ": the run", Checks.runPicture(x), runOn == 1 ? run
                    : "state -1 frames -1 hero -1,-1 lift -1 left -1 hint -1 ghost -1");
                Checks.same(what + ": way of the other", x.way(1), 2);
                Checks.same(what + ": isOpen of the other", x.isOpen(1), true);
                Checks.same(what + ": record of the other", x.record(1, 3), 2);
            }
        }
    }

    private static SpringLevels twoPlayedLevels() {
        SpringLevels x = new SpringLevels();
        for (int level = 0; level < 2; level++) {
            Checks.drawOpen(x, "S.F", "###");
            for (int player = 0; player < 4; player++) {
                x.begin(player, level);
                Checks.playAll(x, "22");
            }
        }
        return x;
    }
}
