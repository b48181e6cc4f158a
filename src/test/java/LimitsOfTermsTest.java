/**
 * The boundary cases of "What it is", and of "Terms": Levels, Ways, Runs and records. Frames and Exceptions have tests
 * of their own.
 */
public final class LimitsOfTermsTest {
    private static final int NONE = SpringLevels.NONE;
    private static final int EMPTY = SpringLevels.EMPTY;
    private static final int BLOCK = SpringLevels.BLOCK;
    private static final int SPIKE = SpringLevels.SPIKE;
    private static final int SPRING = SpringLevels.SPRING;
    private static final int RUNNING = SpringLevels.RUNNING;
    private static final int LOST = SpringLevels.LOST;
    private static final int WON = SpringLevels.WON;
    private static final String NO_RUN = "state -1 frames -1 hero -1,-1 lift -1 left -1 hint -1 ghost -1";

    /** Way 3; a jump at first leads to the SPIKE. */
    private static final String[] FIELD = {"^...", "S..F", "####"};

    public static void main(String[] args) {
        theCallsUpTo512();
        atMost6Levels();
        xFrom0ToTheWidthLess1();
        yFrom0ToTheHeightLess1();
        eachCellIsOfOneKind();
        startAndFlagAreNoBlock();
        startAndFlagMayBeOneCell();
        theWayIsTheLeast();
        theWayOfAStartAtTheFlag();
        theWayFromASpike();
        editingMakesTheWayUnknown();
        editingCloses();
        editingTakesAwayTheRecords();
        editingEndsTheRunThatIsRunning();
        editingEndsTheRunThatIsLost();
        editingEndsTheRunThatIsWon();
        editingWithoutARun();
        editingOfAnotherLevel();
        editingWithWhatIsThereAlready();
        thePlayers0To3();
        atMostOneRun();
        aRunIsOnAnOpenLevel();
        aFirstRecord();
        aRecordOfMoreFrames();
        aRecordOfAsManyFrames();
        aRecordOfFewerFrames();
        noRecordOfARunThatIsNotWon();
        aRecordIsOfThisPlayerOnThisLevel();
        aRecordKeepsItsInputs();
        halfOfAnEvenWidth();
        halfOfAnOddWidth();
        halfOfTheLeastAndTheLargestWidth();
        halfForTheFirstTime();
        halfAtTheStart();
        theBestPlayerHasTheFewestFrames();
        theBestPlayerIsTheLowestOfSeveral();
        Checks.end("LimitsOfTermsTest");
    }

    // ---- What it is

    /** Three calls, then 127 runs of four calls each, then the call 512. */
    private static void theCallsUpTo512() {
        Checks.about("What it is", "An object is used for at most 512 calls after it has been made");
        SpringLevels x = new SpringLevels();
        Checks.same("2: addLevel", x.addLevel(4, 3), 0);
        Checks.same("9: solve", x.solve(0), 3);
        Checks.same("11: open", x.open(0), false);
        for (int run = 0; run < 127; run++) {
            Checks.same("13: begin", x.begin(run % 4, 0), 0);
            Checks.same("14: play", x.play(2), RUNNING);
            Checks.same("14: play", x.play(2), RUNNING);
            Checks.same("14: play", x.play(2), WON);
        }
        Checks.same("26: replay, the call 512", x.replay(0, 126 % 4), 3);
    }

    // ---- Levels

    private static void levels(String sentence) {
        Checks.about("Terms, Levels", sentence);
    }

    private static void atMost6Levels() {
        levels("There are at most 6 levels, numbered from 0");
        SpringLevels x = new SpringLevels();
        for (int level = 0; level < 6; level++) {
            int next = level;
            Checks.noSuch("7: cell of the level that is added next", () -> x.cell(next, 0, 0));
            Checks.same("2: addLevel", x.addLevel(2, 2), level);
            Checks.same("7: cell", x.cell(level, 0, 1), BLOCK);
        }
        Checks.badState("2: addLevel of a seventh", () -> x.addLevel(2, 2));
        Checks.noSuch("7: cell(6, 0, 0)", () -> x.cell(6, 0, 0));
        Checks.noSuch("7: cell(-1, 0, 0)", () -> x.cell(-1, 0, 0));
    }

    private static void xFrom0ToTheWidthLess1() {
        levels("x, 0 to the width less 1 from the left");
        for (int width : new int[] {2, 7, 12}) {
            SpringLevels x = new SpringLevels();
            x.addLevel(width, 3);
            x.setCell(0, 0, 0, SPIKE);
            x.setCell(0, width - 1, 0, SPRING);
            Checks.same("7: cell of the leftmost column", x.cell(0, 0, 0), SPIKE);
            Checks.same("7: cell of the rightmost column", x.cell(0, width - 1, 0), SPRING);
            Checks.noSuch("7: cell of column -1", () -> x.cell(0, -1, 0));
            Checks.noSuch("7: cell of column " + width, () -> x.cell(0, width, 0));
            Checks.noSuch("7: cell of column " + width + " of the lowest row", () -> x.cell(0, width, 2));
        }
    }

    private static void yFrom0ToTheHeightLess1() {
        levels("y, 0 to the height less 1 from the top");
        for (int height : new int[] {2, 5, 8}) {
            SpringLevels x = new SpringLevels();
            x.addLevel(3, height);
            x.setCell(0, 1, 0, SPIKE);
            x.setCell(0, 1, height - 1, SPRING);
            Checks.same("7: cell of the top row", x.cell(0, 1, 0), SPIKE);
            Checks.same("7: cell of the lowest row", x.cell(0, 1, height - 1), SPRING);
            Checks.noSuch("7: cell of row -1", () -> x.cell(0, 0, -1));
            Checks.noSuch("7: cell of row " + height, () -> x.cell(0, 0, height));
        }
    }

    private static void eachCellIsOfOneKind() {
        levels("Each cell is EMPTY, BLOCK, SPIKE or SPRING");
        SpringLevels x = new SpringLevels();
        x.addLevel(3, 2);
        for (int kind : new int[] {EMPTY, BLOCK, SPIKE, SPRING}) {
            x.setCell(0, 1, 0, kind);
            Checks.same("7: cell", x.cell(0, 1, 0), kind);
        }
        Checks.badArgument("3: setCell below EMPTY", () -> x.setCell(0, 1, 0, EMPTY - 1));
        Checks.badArgument("3: setCell above SPRING", () -> x.setCell(0, 1, 0, SPRING + 1));
    }

    private static void startAndFlagAreNoBlock() {
        levels("The start and the flag are cells of the level that are no BLOCK");
        SpringLevels x = new SpringLevels();
        x.addLevel(3, 3);
        Checks.badState("3: setCell(.., BLOCK) of the start", () -> x.setCell(0, 0, 1, BLOCK));
        Checks.badState("3: setCell(.., BLOCK) of the flag", () -> x.setCell(0, 2, 1, BLOCK));
        for (int seed = 0; seed < 16; seed++) {
            x.grow(0, seed);
            Checks.same("6: the start behind grow", x.cell(0, 0, 1), EMPTY);
            Checks.same("6: the flag behind grow", x.cell(0, 2, 1), EMPTY);
        }
    }

    private static void startAndFlagMayBeOneCell() {
        levels("The start and the flag are cells of the level that are no BLOCK");
        SpringLevels x = new SpringLevels();
        x.addLevel(3, 3);
        x.setFlag(0, 0, 1);
        Checks.badState("3: setCell(.., BLOCK) of both", () -> x.setCell(0, 0, 1, BLOCK));
        x.setStart(0, 1, 1);
        Checks.badState("3: setCell(.., BLOCK) of the flag", () -> x.setCell(0, 0, 1, BLOCK));
        x.setFlag(0, 1, 1);
        Checks.same("3: setCell(.., BLOCK) where both were", x.setCell(0, 0, 1, BLOCK), EMPTY);
    }

    // ---- Ways

    private static void ways(String sentence) {
        Checks.about("Terms, Ways", sentence);
    }

    private static void theWayIsTheLeast() {
        ways("the least number of frames with which a run that begins there can be WON");
        SpringLevels x = Checks.begun("......", "......", "S....F", "######");
        Checks.same("9: solve", x.solve(0), 5);
        Checks.win(x, 0, 0, "052222");
        Checks.same("9: solve behind a longer run", x.solve(0), 5);
        Checks.same("10: way behind a longer run", x.way(0), 5);
    }

    private static void theWayOfAStartAtTheFlag() {
        ways("the least number of frames with which a run that begins there can be WON");
        SpringLevels x = new SpringLevels();
        Checks.draw(x, "...", "S.F", "###");
        x.setFlag(0, 0, 1);
        Checks.same("9: solve on the ground", x.solve(0), 1);
        x.setStart(0, 1, 0);
        x.setFlag(0, 1, 0);
        Checks.same("9: solve in the air", x.solve(0), 2);
        x.setCell(0, 1, 2, EMPTY);
        x.setCell(0, 0, 2, EMPTY);
        x.setCell(0, 2, 2, EMPTY);
        Checks.same("9: solve in the air, without a ground", x.solve(0), NONE);
    }

    private static void theWayFromASpike() {
        ways("the least number of frames with which a run that begins there can be WON");
        SpringLevels x = new SpringLevels();
        Checks.draw(x, "S.F", "###");
        x.setCell(0, 0, 0, SPIKE);
        Checks.same("9: solve", x.solve(0), 2);
        x.setFlag(0, 0, 0);
        Checks.same("9: solve to a SPIKE", x.solve(0), NONE);
    }

    private interface Edit {
        void on(SpringLevels x, int level);
    }

    private static final Edit[] EDITS = {
        (x, level) -> x.setCell(level, 1, 0, SPIKE),
        (x, level) -> x.setStart(level, 1, 0),
        (x, level) -> x.setFlag(level, 1, 0),
        (x, level) -> x.grow(level, 65535),
    };

    private static final String[] EDIT_NAMES = {"3: setCell", "4: setStart", "5: setFlag", "6: grow"};

    /** Two levels that are open, with records of the players 0 and 3 on each, and a run of player 2 on level 0. */
    private static SpringLevels edited(int edit, String inputs) {
        SpringLevels x = played();
        x.begin(2, 0);
        Checks.playAll(x, inputs);
        EDITS[edit].on(x, 0);
        return x;
    }

    private static SpringLevels played() {
        SpringLevels x = new SpringLevels();
        for (int level = 0; level < 2; level++) {
            Checks.drawOpen(x, FIELD);
            Checks.win(x, level, 0, "222");
            Checks.win(x, level, 3, "0222");
        }
        return x;
    }

    private static void editingMakesTheWayUnknown() {
        ways("Any editing of a level makes its way unknown");
        for (int edit = 0; edit < EDITS.length; edit++) {
            Checks.same("10: way behind " + EDIT_NAMES[edit], edited(edit, "").way(0), NONE);
        }
    }

    private static void editingCloses() {
        ways("Any editing of a level makes its way unknown, closes it");
        for (int edit = 0; edit < EDITS.length; edit++) {
            SpringLevels x = edited(edit, "");
            Checks.same("12: isOpen behind " + EDIT_NAMES[edit], x.isOpen(0), false);
            Checks.badState("13: begin behind " + EDIT_NAMES[edit], () -> x.begin(0, 0));
            Checks.badState("11: open behind " + EDIT_NAMES[edit], () -> x.open(0) ? 1 : 0);
            x.solve(0);
            Checks.same("12: isOpen behind " + EDIT_NAMES[edit] + " and solve", x.isOpen(0), false);
        }
    }

    private static void editingTakesAwayTheRecords() {
        ways("Any editing of a level .. takes away its records");
        for (int edit = 0; edit < EDITS.length; edit++) {
            SpringLevels x = edited(edit, "");
            for (int player = 0; player < 4; player++) {
                Checks.same("22: record behind " + EDIT_NAMES[edit], x.record(0, player), NONE);
                Checks.same("23: half behind " + EDIT_NAMES[edit], x.half(0, player), NONE);
                Checks.same("26: replay behind " + EDIT_NAMES[edit], x.replay(0, player), NONE);
            }
            Checks.same("24: bestPlayer behind " + EDIT_NAMES[edit], x.bestPlayer(0), NONE);
        }
    }

    private static void runEndsBehind(String inputs, int state) {
        SpringLevels before = played();
        before.begin(2, 0);
        Checks.playAll(before, inputs);
        Checks.same("15: state before the editing", before.state(), state);
        for (int edit = 0; edit < EDITS.length; edit++) {
            SpringLevels x = edited(edit, inputs);
            Checks.same("15 to 25: the run behind " + EDIT_NAMES[edit], Checks.runPicture(x), NO_RUN);
            Checks.badState("14: play behind " + EDIT_NAMES[edit], () -> x.play(0));
        }
    }

    private static void editingEndsTheRunThatIsRunning() {
        ways("Any editing of a level .. ends the run that is on it, if there is one (there is no run then)");
        runEndsBehind("", RUNNING);
        runEndsBehind("22", RUNNING);
    }

    private static void editingEndsTheRunThatIsLost() {
        ways("Any editing of a level .. ends the run that is on it, if there is one (there is no run then)");
        runEndsBehind("3", LOST);
    }

    private static void editingEndsTheRunThatIsWon() {
        ways("Any editing of a level .. ends the run that is on it, if there is one (there is no run then)");
        runEndsBehind("222", WON);
    }

    private static void editingWithoutARun() {
        ways("ends the run that is on it, if there is one");
        for (int edit = 0; edit < EDITS.length; edit++) {
            SpringLevels x = new SpringLevels();
            Checks.drawOpen(x, FIELD);
            EDITS[edit].on(x, 0);
            Checks.same("15 to 25: the run behind " + EDIT_NAMES[edit], Checks.runPicture(x), NO_RUN);
            Checks.same("12: isOpen behind " + EDIT_NAMES[edit], x.isOpen(0), false);
        }
    }

    private static void editingOfAnotherLevel() {
        ways("Any editing of a level .. ends the run that is on it");
        for (int edit = 0; edit < EDITS.length; edit++) {
            SpringLevels x = played();
            x.begin(2, 1);
            x.play(2);
            String run = Checks.runPicture(x);
            EDITS[edit].on(x, 0);
            String what = " of the other level behind " + EDIT_NAMES[edit];
            Checks.same("15 to 25: the run" + what, Checks.runPicture(x), run);
            Checks.same("10: way" + what, x.way(1), 3);
            Checks.same("12: isOpen" + what, x.isOpen(1), true);
            Checks.same("22: record" + what, x.record(1, 3), 4);
            Checks.same("24: bestPlayer" + what, x.bestPlayer(1), 0);
        }
    }

    private static void editingWithWhatIsThereAlready() {
        ways("Any editing of a level makes its way unknown");
        Edit[] same = {
            (x, level) -> x.setCell(level, 1, 0, EMPTY),
            (x, level) -> x.setCell(level, 1, 2, BLOCK),
            (x, level) -> x.setStart(level, 0, 1),
            (x, level) -> x.setFlag(level, 3, 1),
        };
        for (Edit edit : same) {
            SpringLevels x = played();
            x.begin(2, 0);
            edit.on(x, 0);
            Checks.same("10: way", x.way(0), NONE);
            Checks.same("12: isOpen", x.isOpen(0), false);
            Checks.same("22: record", x.record(0, 0), NONE);
            Checks.same("15: state", x.state(), NONE);
        }
        SpringLevels grown = new SpringLevels();
        grown.addLevel(2, 2);
        grown.grow(0, 0);
        grown.solve(0);
        grown.grow(0, 0);
        Checks.same("10: way behind grow by the same seed", grown.way(0), NONE);
    }

    // ---- Runs and records

    private static void runs(String sentence) {
        Checks.about("Terms, Runs and records", sentence);
    }

    private static void thePlayers0To3() {
        runs("There are the players 0 to 3");
        SpringLevels x = new SpringLevels();
        Checks.drawOpen(x, FIELD);
        for (int player = 0; player < 4; player++) {
            Checks.win(x, 0, player, "0".repeat(player) + "222");
        }
        for (int player = 0; player < 4; player++) {
            Checks.same("22: record of player " + player, x.record(0, player), 3 + player);
        }
        for (int player : new int[] {-1, 4}) {
            Checks.noSuch("13: begin of player " + player, () -> x.begin(player, 0));
            Checks.noSuch("22: record of player " + player, () -> x.record(0, player));
            Checks.noSuch("23: half of player " + player, () -> x.half(0, player));
            Checks.noSuch("26: replay of player " + player, () -> x.replay(0, player));
        }
    }

    private static void atMostOneRun() {
        runs("at most one run, of a player on a level that is open");
        SpringLevels x = played();
        x.begin(1, 0);
        Checks.playAll(x, "22");
        x.begin(2, 1);
        Checks.same("16: frames of the second run", x.frames(), 0);
        Checks.playAll(x, "222");
        Checks.same("22: record of the second run", x.record(1, 2), 3);
        Checks.same("22: record of the first run", x.record(0, 1), NONE);
        x.setCell(0, 1, 0, SPIKE);
        Checks.same("15: state behind editing where the first run was", x.state(), WON);
    }

    private static void aRunIsOnAnOpenLevel() {
        runs("at most one run, of a player on a level that is open");
        SpringLevels x = new SpringLevels();
        Checks.draw(x, FIELD);
        Checks.badState("13: begin before solve", () -> x.begin(0, 0));
        x.solve(0);
        Checks.badState("13: begin before open", () -> x.begin(0, 0));
        Checks.same("15: state", x.state(), NONE);
        x.open(0);
        Checks.same("13: begin", x.begin(0, 0), 0);
        Checks.same("15: state", x.state(), RUNNING);
    }

    private static final String RECORD =
        "it is the record of this player on this level, if there was none, or that had more frames";

    private static final String[] FLAT = {"......", "......", "S....F", "######"};

    private static void recordIs(SpringLevels x, int frames, int half) {
        Checks.same("22: record", x.record(0, 1), frames);
        Checks.same("23: half", x.half(0, 1), half);
        Checks.same("26: replay", x.replay(0, 1), frames);
    }

    private static SpringLevels flat() {
        SpringLevels x = new SpringLevels();
        Checks.drawOpen(x, FLAT);
        return x;
    }

    private static void aFirstRecord() {
        runs(RECORD);
        SpringLevels x = flat();
        recordIs(x, NONE, NONE);
        Checks.win(x, 0, 1, "0".repeat(95) + "22222");
        recordIs(x, 100, 98);
    }

    private static void aRecordOfMoreFrames() {
        runs(RECORD);
        SpringLevels x = flat();
        Checks.win(x, 0, 1, "022222");
        Checks.win(x, 0, 1, "2220022");
        recordIs(x, 6, 4);
        Checks.win(x, 0, 1, "0".repeat(95) + "22222");
        recordIs(x, 6, 4);
    }

    private static void aRecordOfAsManyFrames() {
        runs(RECORD);
        SpringLevels x = flat();
        Checks.win(x, 0, 1, "022222");
        Checks.win(x, 0, 1, "222022");
        recordIs(x, 6, 4);
    }

    private static void aRecordOfFewerFrames() {
        runs(RECORD);
        SpringLevels x = flat();
        Checks.win(x, 0, 1, "2220022");
        recordIs(x, 7, 3);
        Checks.win(x, 0, 1, "022222");
        recordIs(x, 6, 4);
        Checks.win(x, 0, 1, "22222");
        recordIs(x, 5, 3);
    }

    private static void noRecordOfARunThatIsNotWon() {
        runs("When a run is WON, it is the record");
        SpringLevels x = new SpringLevels();
        Checks.drawOpen(x, FIELD);
        x.begin(1, 0);
        Checks.playAll(x, "22");
        recordIs(x, NONE, NONE);
        x.begin(1, 0);
        Checks.playAll(x, "3");
        recordIs(x, NONE, NONE);
        x.begin(1, 0);
        Checks.playAll(x, "0".repeat(100));
        Checks.same("15: state behind 100 frames", x.state(), LOST);
        recordIs(x, NONE, NONE);
    }

    private static void aRecordIsOfThisPlayerOnThisLevel() {
        runs("it is the record of this player on this level");
        SpringLevels x = flat();
        Checks.drawOpen(x, FLAT);
        Checks.win(x, 1, 1, "022222");
        for (int player = 0; player < 4; player++) {
            Checks.same("22: record on the level 0", x.record(0, player), NONE);
            Checks.same("22: record on the level 1", x.record(1, player), player == 1 ? 6 : NONE);
        }
        Checks.win(x, 1, 2, "0022222");
        Checks.same("22: record of player 1", x.record(1, 1), 6);
        Checks.same("22: record of player 2, with more frames", x.record(1, 2), 7);
    }

    /** The inputs show in the places of the ghost. */
    private static void aRecordKeepsItsInputs() {
        runs("A record keeps the inputs of its run");
        SpringLevels x = flat();
        Checks.win(x, 0, 1, "3220222");
        Checks.win(x, 0, 1, "2220022");
        x.begin(0, 0);
        int[] places = {200, 100, 1, 102, 202, 203, 204, 205};
        for (int frame = 0; frame < places.length; frame++) {
            Checks.same("25: ghost behind " + frame + " frames", x.ghost(), places[frame]);
            x.play(0);
        }
        Checks.same("26: replay", x.replay(0, 1), 7);
    }

    private static final String HALF = "in a column of at least half the width (x * 2 at least the width)";

    private static void halfIs(int due, String inputs, String... rows) {
        SpringLevels x = new SpringLevels();
        Checks.drawOpen(x, rows);
        Checks.win(x, 0, 0, inputs);
        Checks.same("23: half of the run " + inputs + " on " + String.join("/", rows), x.half(0, 0), due);
    }

    private static void halfOfAnEvenWidth() {
        runs(HALF);
        halfIs(3, "22222", "S....F", "######");
        halfIs(3, "222", "S..F..", "######");
        halfIs(NONE, "22", "S.F...", "######");
        halfIs(2, "22", "S.F.", "####");
        halfIs(NONE, "2", "SF..", "####");
    }

    private static void halfOfAnOddWidth() {
        runs(HALF);
        halfIs(3, "2222", "S...F", "#####");
        halfIs(3, "222", "S..F.", "#####");
        halfIs(NONE, "22", "S.F..", "#####");
        halfIs(2, "22", "S.F", "###");
        halfIs(NONE, "2", "SF.", "###");
    }

    private static void halfOfTheLeastAndTheLargestWidth() {
        runs(HALF);
        halfIs(1, "2", "SF", "##");
        halfIs(0, "1", "FS", "##");
        halfIs(6, "222222", "S.....F.....", "############");
        halfIs(NONE, "22222", "S....F......", "############");
    }

    private static void halfForTheFirstTime() {
        runs("the number of frames behind which the hero was in a column of at least half .. for the first time");
        halfIs(2, "22122", "S..F", "####");
        halfIs(4, "00222", "S..F", "####");
        halfIs(1, "211", "FS..", "####");
    }

    private static void halfAtTheStart() {
        runs("0 if the start is there");
        halfIs(0, "11", "F.S.", "####");
        halfIs(0, "2", "..SF", "####");
        halfIs(1, "2", ".SF.", "####");
    }

    private static void theBestPlayerHasTheFewestFrames() {
        runs("The best player of a level is that with the record of the fewest frames");
        SpringLevels x = flat();
        Checks.win(x, 0, 0, "0022222");
        Checks.win(x, 0, 3, "022222");
        Checks.same("24: bestPlayer", x.bestPlayer(0), 3);
        Checks.win(x, 0, 1, "22222");
        Checks.same("24: bestPlayer", x.bestPlayer(0), 1);
    }

    private static void theBestPlayerIsTheLowestOfSeveral() {
        runs("The best player of a level is that .. of the fewest frames, of several the lowest");
        SpringLevels x = flat();
        for (int player = 3; player >= 0; player--) {
            Checks.win(x, 0, player, "22222");
            Checks.same("24: bestPlayer", x.bestPlayer(0), player);
        }
        SpringLevels y = flat();
        for (int player = 0; player < 4; player++) {
            Checks.win(y, 0, player, "22222");
            Checks.same("24: bestPlayer", y.bestPlayer(0), 0);
        }
    }
}
