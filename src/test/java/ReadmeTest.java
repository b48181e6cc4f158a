/** The calls of README.md, section by section, with the answers that it tells. */
public final class ReadmeTest {
    private static final int NONE = SpringLevels.NONE;

    public static void main(String[] args) {
        SpringLevels x = new SpringLevels();
        newObject(x);
        int level = levels(x);
        solvingAndOpening(x, level);
        runs(x, level);
        records(x, level);
        whatACallMayThrow(x, level);
        Checks.end("ReadmeTest");
    }

    private static void newObject(SpringLevels x) {
        Checks.same("levels()", x.levels(), 0);
        Checks.same("state()", x.state(), NONE);
    }

    private static int levels(SpringLevels x) {
        int level = x.addLevel(6, 4);
        Checks.same("addLevel(6, 4)", level, 0);
        Checks.same("setCell", x.setCell(level, 2, 2, SpringLevels.SPIKE), SpringLevels.EMPTY);
        Checks.same("cell", x.cell(level, 2, 2), SpringLevels.SPIKE);
        x.setStart(level, 1, 2);
        x.setFlag(level, 4, 2);
        Checks.same("addLevel(5, 3)", x.addLevel(5, 3), 1);
        Checks.same("grow(1, 7)", x.grow(1, 7), 6);
        return level;
    }

    private static void solvingAndOpening(SpringLevels x, int level) {
        Checks.same("way before solve", x.way(level), NONE);
        Checks.same("solve", x.solve(level), 4);
        Checks.same("way", x.way(level), 4);
        Checks.same("open", x.open(level), false);
        Checks.same("isOpen", x.isOpen(level), true);
    }

    private static void runs(SpringLevels x, int level) {
        Checks.same("begin(0, level)", x.begin(0, level), 1);
        Checks.same("play(0)", x.play(0), SpringLevels.RUNNING);
        Checks.same("left()", x.left(), 4);
        Checks.same("hint()", x.hint(), 3);
        Checks.same("play(3)", x.play(3), SpringLevels.RUNNING);
        Checks.same("frames()", x.frames(), 2);
        Checks.same("heroX()", x.heroX(), 1);
        Checks.same("heroY()", x.heroY(), 1);
        Checks.same("lift()", x.lift(), 1);
        while (x.state() == SpringLevels.RUNNING) {
            x.play(x.hint());
        }
        Checks.same("state() at the end", x.state(), SpringLevels.WON);
    }

    private static void records(SpringLevels x, int level) {
        Checks.same("record(level, 0)", x.record(level, 0), 5);
        Checks.same("half(level, 0)", x.half(level, 0), 4);
        Checks.same("record(level, 1)", x.record(level, 1), NONE);
        Checks.same("bestPlayer(level)", x.bestPlayer(level), 0);
        Checks.same("replay(level, 0)", x.replay(level, 0), 5);
        Checks.same("begin(1, level)", x.begin(1, level), 1);
        Checks.same("ghost()", x.ghost(), 201);
        Checks.same("setCell", x.setCell(level, 0, 0, SpringLevels.SPRING), SpringLevels.EMPTY);
        Checks.same("record behind editing", x.record(level, 0), NONE);
        Checks.same("state() behind editing", x.state(), NONE);
    }

    private static void whatACallMayThrow(SpringLevels x, int level) {
        Checks.noSuch("way(6)", () -> x.way(6));
        Checks.badArgument("play(6)", () -> x.play(6));
        Checks.badState("open(level)", () -> x.open(level) ? 1 : 0);
    }
}
