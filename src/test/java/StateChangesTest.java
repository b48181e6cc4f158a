/**
 * "Nothing is promised beyond the answers and state changes described above": a call that is said to answer changes
 * nothing, and any other one changes what is said of it alone. Each call is made in each of the scenes.
 */
public final class StateChangesTest {
    private static final int NONE = SpringLevels.NONE;
    private static final int PLAYERS = 4;

    private interface Call {
        void on(SpringLevels x);
    }

    private final Scene scene;
    private final int levels;

    private StateChangesTest(Scene scene) {
        this.scene = scene;
        levels = scene.made().levels();
    }

    public static void main(String[] args) {
        for (Scene scene : Scene.values()) {
            new StateChangesTest(scene).run();
        }
        noLevelIsOpenWithoutAWay();
        Checks.end("StateChangesTest");
    }

    private void run() {
        answersAboutALevel();
        answersAboutARun();
        answersAboutRecords();
        solveOfWhatIsSolved();
        openOfWhatIsOpen();
        addLevelKeepsWhatIsThere();
        solveChangesTheWay();
        openOpens();
        beginChangesTheRun();
        playChangesTheRun();
        winChangesOneRecord();
        editingKeepsTheOtherLevels();
        setCellChangesOneCell();
        setStartAndSetFlagChangeNoCell();
        growChangesNeitherStartNorFlag();
    }

    private static void nothingElse(String what) {
        Checks.about("Not promised", "Nothing is promised beyond the answers and state changes described: " + what);
    }

    /** Behind the call the object must go on like one on which it was not made. */
    private void changesNothing(String what, Call call) {
        SpringLevels x = scene.made();
        SpringLevels twin = scene.made();
        call.on(x);
        scene.sameAftermath(what, x, twin);
    }

    private void answersAboutALevel() {
        nothingElse("Returns ..");
        changesNothing("8: levels()", SpringLevels::levels);
        for (int level = 0; level < levels; level++) {
            int each = level;
            changesNothing("7: cell(" + level + ", 1, 0)", x -> x.cell(each, 1, 0));
            changesNothing("10: way(" + level + ")", x -> x.way(each));
            changesNothing("12: isOpen(" + level + ")", x -> x.isOpen(each));
        }
    }

    private void answersAboutARun() {
        nothingElse("Returns ..");
        changesNothing("15: state()", SpringLevels::state);
        changesNothing("16: frames()", SpringLevels::frames);
        changesNothing("17: heroX()", SpringLevels::heroX);
        changesNothing("18: heroY()", SpringLevels::heroY);
        changesNothing("19: lift()", SpringLevels::lift);
        changesNothing("20: left()", SpringLevels::left);
        changesNothing("21: hint()", SpringLevels::hint);
        changesNothing("25: ghost()", SpringLevels::ghost);
    }

    private void answersAboutRecords() {
        nothingElse("Returns ..; Plays the inputs of a record again");
        for (int level = 0; level < levels; level++) {
            int each = level;
            changesNothing("24: bestPlayer(" + level + ")", x -> x.bestPlayer(each));
            for (int player = 0; player < PLAYERS; player++) {
                int of = player;
                changesNothing("22: record(" + level + ", " + player + ")", x -> x.record(each, of));
                changesNothing("23: half(" + level + ", " + player + ")", x -> x.half(each, of));
                changesNothing("26: replay(" + level + ", " + player + ")", x -> x.replay(each, of));
            }
        }
    }

    /** The levels 0 to 2 are solved; the level 1 has no way. */
    private void solveOfWhatIsSolved() {
        nothingElse("Finds the way of a level");
        for (int level = 0; level < 3; level++) {
            int each = level;
            changesNothing("9: solve(" + level + ") again", x -> x.solve(each));
        }
    }

    private void openOfWhatIsOpen() {
        nothingElse("Opens a level");
        changesNothing("11: open(0) again", x -> x.open(0));
    }

    // ---- calls that change something

    /** The levels from the first to the one before the end, the run, and how many levels there are. */
    private static String pictures(SpringLevels x, int first, int end) {
        StringBuilder all = new StringBuilder(Checks.runPicture(x)).append(levelPictures(x, first, end));
        return all.append(" levels ").append(x.levels()).toString();
    }

    private static String levelPictures(SpringLevels x, int first, int end) {
        StringBuilder all = new StringBuilder();
        for (int level = first; level < end; level++) {
            all.append(Checks.levelPicture(x, level));
        }
        return all.toString();
    }

    private void addLevelKeepsWhatIsThere() {
        if (scene == Scene.SIX_LEVELS) {
            return;
        }
        nothingElse("Adds a level");
        SpringLevels x = scene.made();
        String run = Checks.runPicture(x);
        String before = levelPictures(x, 0, levels);
        x.addLevel(12, 8);
        Checks.same("15 to 25: the run behind addLevel", Checks.runPicture(x), run);
        Checks.same("7 to 26: the levels behind addLevel", levelPictures(x, 0, levels), before);
        Checks.same("8: levels behind addLevel", x.levels(), levels + 1);
    }

    private void solveChangesTheWay() {
        nothingElse("Finds the way of a level");
        SpringLevels x = scene.made();
        String others = pictures(x, 0, 3);
        String solved = Checks.levelPicture(x, 3);
        int way = x.solve(3);
        Checks.same("7 to 26: the rest behind solve(3)", pictures(x, 0, 3), others);
        Checks.same("7 to 26: the level 3 behind solve(3)", Checks.levelPicture(x, 3),
            solved.replaceFirst("way -1", "way " + way));
    }

    private void openOpens() {
        nothingElse("Opens a level");
        SpringLevels x = scene.made();
        String others = pictures(x, 0, 2) + levelPictures(x, 3, levels);
        String opened = Checks.levelPicture(x, 2);
        x.open(2);
        Checks.same("7 to 26: the rest behind open(2)", pictures(x, 0, 2) + levelPictures(x, 3, levels), others);
        Checks.same("7 to 26: the level 2 behind open(2)", Checks.levelPicture(x, 2),
            opened.replaceFirst("open false", "open true"));
    }

    private void beginChangesTheRun() {
        nothingElse("Begins a run, in place of the one that there may be");
        for (int player = 0; player < PLAYERS; player++) {
            SpringLevels x = scene.made();
            String before = levelPictures(x, 0, levels);
            x.begin(player, 0);
            Checks.same("7 to 26: the levels behind begin(" + player + ", 0)", levelPictures(x, 0, levels), before);
        }
    }

    private void playChangesTheRun() {
        nothingElse("Plays a frame");
        String[] inputs = {"", "0", "2", "3", "03", "23"};
        for (String each : inputs) {
            SpringLevels x = scene.made();
            String before = levelPictures(x, 0, levels);
            x.begin(0, 0);
            Checks.playAll(x, each);
            Checks.same("15: the run " + each + " is WON", x.state() == SpringLevels.WON, false);
            Checks.same("7 to 26: the levels behind the frames " + each, levelPictures(x, 0, levels), before);
        }
    }

    private void winChangesOneRecord() {
        nothingElse("When a run is WON, it is the record of this player on this level");
        for (int player = 0; player < PLAYERS; player++) {
            SpringLevels x = scene.made();
            String others = levelPictures(x, 1, levels) + recordsBut(x, player);
            String cells = Checks.cells(x, 0);
            Checks.win(x, 0, player, "22");
            String what = " behind a win of player " + player;
            Checks.same("22 to 26: the other records" + what, levelPictures(x, 1, levels) + recordsBut(x, player),
                others);
            Checks.same("22 to 26: the record" + what, Checks.recordPicture(x, 0, player), " record 2/2/2");
            Checks.same("7: cells" + what, Checks.cells(x, 0), cells);
            Checks.same("10: way" + what, x.way(0), 2);
            Checks.same("12: isOpen" + what, x.isOpen(0), true);
        }
    }

    private static String recordsBut(SpringLevels x, int left) {
        StringBuilder all = new StringBuilder();
        for (int player = 0; player < PLAYERS; player++) {
            all.append(player == left ? "" : Checks.recordPicture(x, 0, player));
        }
        return all.toString();
    }

    private static final Call[] EDITS = {
        x -> x.setCell(2, 1, 0, SpringLevels.SPIKE),
        x -> x.setStart(2, 1, 0),
        x -> x.setFlag(2, 1, 0),
        x -> x.grow(2, 3),
    };

    private void editingKeepsTheOtherLevels() {
        nothingElse("Any editing of a level makes its way unknown, closes it, takes away its records");
        for (int edit = 0; edit < EDITS.length; edit++) {
            SpringLevels x = scene.made();
            String others = pictures(x, 0, 2) + levelPictures(x, 3, levels);
            EDITS[edit].on(x);
            Checks.same("7 to 26: the rest behind editing of the level 2, as promise " + (3 + edit) + " says",
                pictures(x, 0, 2) + levelPictures(x, 3, levels), others);
            Checks.same("10: way of the level 2", x.way(2), NONE);
        }
    }

    private void setCellChangesOneCell() {
        nothingElse("Sets the kind of a cell");
        SpringLevels x = scene.made();
        x.setCell(0, 1, 0, SpringLevels.SPRING);
        Checks.same("7: cells behind setCell(0, 1, 0, SPRING)", Checks.cells(x, 0), "^o./.../###");
        x.setCell(0, 1, 2, SpringLevels.EMPTY);
        Checks.same("7: cells behind setCell(0, 1, 2, EMPTY)", Checks.cells(x, 0), "^o./.../#.#");
        startAndFlagAreWhereTheyWere(x);
    }

    private void setStartAndSetFlagChangeNoCell() {
        nothingElse("Sets the start; sets the flag");
        SpringLevels x = scene.made();
        x.setStart(0, 0, 0);
        Checks.same("7: cells behind setStart at a SPIKE", Checks.cells(x, 0), "^../.../###");
        Checks.badState("3: BLOCK at the flag behind setStart", () -> x.setCell(0, 2, 1, SpringLevels.BLOCK));
        SpringLevels y = scene.made();
        y.setFlag(0, 0, 0);
        Checks.same("7: cells behind setFlag at a SPIKE", Checks.cells(y, 0), "^../.../###");
        Checks.badState("3: BLOCK at the start behind setFlag", () -> y.setCell(0, 0, 1, SpringLevels.BLOCK));
    }

    private void growChangesNeitherStartNorFlag() {
        nothingElse("Makes all cells anew by a seed");
        SpringLevels x = scene.made();
        x.grow(0, 3);
        startAndFlagAreWhereTheyWere(x);
    }

    private static void startAndFlagAreWhereTheyWere(SpringLevels x) {
        Checks.badState("3: BLOCK at the start", () -> x.setCell(0, 0, 1, SpringLevels.BLOCK));
        Checks.badState("3: BLOCK at the flag", () -> x.setCell(0, 2, 1, SpringLevels.BLOCK));
    }

    // ---- the first lines of Terms

    private static void noLevelIsOpenWithoutAWay() {
        Checks.about("Terms", "No level is open without a way that was found, and edits make ways and records void");
        int open = 0;
        for (int seed = 0; seed < 300; seed++) {
            SpringLevels x = new SpringLevels();
            x.addLevel(6, 5);
            x.grow(0, seed);
            closed(x, "behind grow(0, " + seed + ")");
            if (x.solve(0) == NONE) {
                closed(x, "without a way, of seed " + seed);
            } else {
                open++;
                winAndEdit(x, seed);
            }
        }
        Checks.same("9: some of the levels have a way, and some have none", open > 50 && open < 250, true);
    }

    private static void closed(SpringLevels x, String when) {
        Checks.same("10: way " + when, x.way(0), NONE);
        Checks.badState("11: open " + when, () -> x.open(0) ? 1 : 0);
        Checks.same("12: isOpen " + when, x.isOpen(0), false);
        Checks.badState("13: begin " + when, () -> x.begin(0, 0));
        Checks.same("24: bestPlayer " + when, x.bestPlayer(0), NONE);
    }

    /** The hints lead to the flag in just as many frames as the way has. */
    private static void winAndEdit(SpringLevels x, int seed) {
        int way = x.way(0);
        Checks.same("11: open of seed " + seed, x.open(0), false);
        x.begin(0, 0);
        for (int left = way; left > 0; left--) {
            Checks.same("20: left of seed " + seed, x.left(), left);
            x.play(x.hint());
        }
        Checks.same("15: state of seed " + seed, x.state(), SpringLevels.WON);
        Checks.same("22: record of seed " + seed, x.record(0, 0), way);
        Checks.same("26: replay of seed " + seed, x.replay(0, 0), way);
        x.setCell(0, 0, 0, SpringLevels.EMPTY);
        closed(x, "behind setCell, of seed " + seed);
        Checks.same("22: record behind setCell, of seed " + seed, x.record(0, 0), NONE);
    }
}
