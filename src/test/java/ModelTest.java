import java.util.function.ToLongFunction;

/** Long runs of calls, the same on the class and on the Model: every answer and every exception must agree. */
public final class ModelTest {
    private static final int OBJECTS = 600;
    private static final int CALLS = 512;

    private final SpringLevels x = new SpringLevels();
    private final Model model = new Model();
    private final String name;
    private long seed;
    private int calls;

    private ModelTest(int number) {
        name = "object " + number;
        seed = number * 7919L + 17;
    }

    public static void main(String[] args) {
        for (int number = 0; number < OBJECTS; number++) {
            new ModelTest(number).run();
        }
        Checks.end("ModelTest");
    }

    /** A number from 0 to bound - 1. The seeds are fixed, so that every run of the test makes the same calls. */
    private int pick(int bound) {
        seed = (seed * 6364136223846793005L + 1442695040888963407L);
        return (int) ((seed >>> 33) % bound);
    }

    private long both(String call, ToLongFunction<SpringLevels> ours, ToLongFunction<Model> theirs) {
        calls++;
        String due = Checks.outcome(() -> theirs.applyAsLong(model));
        Checks.same(name + ", call " + calls + ": " + call, Checks.outcome(() -> ours.applyAsLong(x)), due);
        return due.startsWith("throws") ? -1 : Long.parseLong(due);
    }

    private void run() {
        int many = 1 + pick(3);
        for (int i = 0; i < many; i++) {
            addLevel();
        }
        while (calls < CALLS - 20) {
            int what = pick(100);
            if (what < 6) {
                edit();
            } else if (what < 18) {
                openAndBegin();
            } else if (what < 70) {
                play();
            } else if (what < 72) {
                wait(90);
            } else if (what < 74) {
                addLevel();
            } else {
                ask();
            }
            readRun();
        }
    }

    private void addLevel() {
        int width = pick(3) == 0 ? pick(15) : 2 + pick(6);
        int height = pick(3) == 0 ? pick(10) : 2 + pick(6);
        both("addLevel(" + width + ", " + height + ")", o -> o.addLevel(width, height),
            o -> o.addLevel(width, height));
    }

    private int level() {
        return pick(25) == 0 ? pick(9) - 1 : pick(model.levels() + 1) % Math.max(1, model.levels());
    }

    private int player() {
        return pick(25) == 0 ? pick(7) - 1 : pick(4);
    }

    private void edit() {
        int level = level();
        boolean there = level >= 0 && level < model.levels();
        int at = pick(20) == 0 ? pick(15) - 1 : pick(there ? model.grids.get(level).width : 12);
        int y = pick(20) == 0 ? pick(11) - 1 : pick(there ? model.grids.get(level).height : 8);
        int what = pick(10);
        if (what < 5) {
            int kind = pick(20) == 0 ? pick(7) - 1 : pick(4);
            both("setCell(" + level + ", " + at + ", " + y + ", " + kind + ")", o -> o.setCell(level, at, y, kind),
                o -> o.setCell(level, at, y, kind));
        } else if (what == 5) {
            both("setStart(" + level + ", " + at + ", " + y + ")", o -> {
                o.setStart(level, at, y);
                return 0;
            }, o -> {
                o.setStart(level, at, y);
                return 0;
            });
        } else if (what == 6) {
            both("setFlag(" + level + ", " + at + ", " + y + ")", o -> {
                o.setFlag(level, at, y);
                return 0;
            }, o -> {
                o.setFlag(level, at, y);
                return 0;
            });
        } else {
            int grown = pick(20) == 0 ? 65536 - 2 * pick(2) * 65536 : pick(65536);
            both("grow(" + level + ", " + grown + ")", o -> o.grow(level, grown), o -> o.grow(level, grown));
        }
    }

    private void openAndBegin() {
        int level = level();
        int player = player();
        if (pick(4) > 0) {
            both("solve(" + level + ")", o -> o.solve(level), o -> o.solve(level));
        }
        both("open(" + level + ")", o -> o.open(level) ? 1 : 0, o -> o.open(level) ? 1 : 0);
        both("begin(" + player + ", " + level + ")", o -> o.begin(player, level), o -> o.begin(player, level));
    }

    /** The hint is often taken, so that many runs are WON. */
    private void play() {
        for (int frames = 1 + pick(6); frames > 0; frames--) {
            int hint = model.hint();
            int input = pick(3) > 0 && hint >= 0 ? hint : pick(40) == 0 ? pick(9) - 1 : pick(6);
            both("play(" + input + ")", o -> o.play(input), o -> o.play(input));
        }
    }

    private void wait(int frames) {
        for (int i = 0; i < frames && calls < CALLS - 60 && model.state() == 0; i++) {
            int input = model.frames() % 2 == 0 ? 1 : 0;
            both("play(" + input + ")", o -> o.play(input), o -> o.play(input));
        }
        readRun();
    }

    private void readRun() {
        switch (pick(9)) {
            case 0 -> both("state()", SpringLevels::state, Model::state);
            case 1 -> both("frames()", SpringLevels::frames, Model::frames);
            case 2 -> both("heroX()", SpringLevels::heroX, Model::heroX);
            case 3 -> both("heroY()", SpringLevels::heroY, Model::heroY);
            case 4 -> both("lift()", SpringLevels::lift, Model::lift);
            case 5 -> both("left()", SpringLevels::left, Model::left);
            case 6 -> both("hint()", SpringLevels::hint, Model::hint);
            case 7 -> both("ghost()", SpringLevels::ghost, Model::ghost);
            default -> both("levels()", SpringLevels::levels, Model::levels);
        }
    }

    private void ask() {
        int level = level();
        int player = player();
        int at = pick(13) - 1;
        int y = pick(9) - 1;
        switch (pick(7)) {
            case 0 -> both("way(" + level + ")", o -> o.way(level), o -> o.way(level));
            case 1 -> both("isOpen(" + level + ")", o -> o.isOpen(level) ? 1 : 0, o -> o.isOpen(level) ? 1 : 0);
            case 2 -> both("record(" + level + ", " + player + ")", o -> o.record(level, player),
                o -> o.record(level, player));
            case 3 -> both("half(" + level + ", " + player + ")", o -> o.half(level, player),
                o -> o.half(level, player));
            case 4 -> both("bestPlayer(" + level + ")", o -> o.bestPlayer(level), o -> o.bestPlayer(level));
            case 5 -> both("replay(" + level + ", " + player + ")", o -> o.replay(level, player),
                o -> o.replay(level, player));
            default -> both("cell(" + level + ", " + at + ", " + y + ")", o -> o.cell(level, at, y),
                o -> o.cell(level, at, y));
        }
    }
}
