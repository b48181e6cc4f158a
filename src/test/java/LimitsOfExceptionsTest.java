/**
 * The boundary cases of "Terms", Exceptions: every exception of every throws clause, the first of the clause where
 * several apply, and that a call that throws changes nothing. Each call is made on an object in each of the scenes,
 * and all that the object answers afterwards must be what one answers on which the call was not made.
 */
public final class LimitsOfExceptionsTest {
    private static final int EMPTY = SpringLevels.EMPTY;
    private static final int BLOCK = SpringLevels.BLOCK;

    private interface Refused {
        long on(SpringLevels x);
    }

    private final Scene scene;
    private final int levels;

    private LimitsOfExceptionsTest(Scene scene) {
        this.scene = scene;
        levels = scene.made().levels();
    }

    public static void main(String[] args) {
        for (Scene scene : Scene.values()) {
            new LimitsOfExceptionsTest(scene).run();
        }
        Checks.end("LimitsOfExceptionsTest");
    }

    private void run() {
        sceneIsAsNamed();
        noSuchLevel();
        noSuchCell();
        noSuchPlayer();
        anotherArgument();
        stateOfALevel();
        noRunThatIsRunning();
        sixLevels();
        firstOfTheClauseOfSetCell();
        firstOfTheClauseOfGrow();
        firstOfTheClauseOfBegin();
    }

    private void refused(String what, Class<? extends RuntimeException> due, Refused call) {
        SpringLevels x = scene.made();
        SpringLevels twin = scene.made();
        Checks.refused(what + " in the scene " + scene, due, () -> call.on(x));
        scene.sameAftermath(what, x, twin);
    }

    private void noSuch(String what, Refused call) {
        refused(what, IndexOutOfBoundsException.class, call);
    }

    private void badArgument(String what, Refused call) {
        refused(what, IllegalArgumentException.class, call);
    }

    private void badState(String what, Refused call) {
        refused(what, IllegalStateException.class, call);
    }

    private static long start(SpringLevels x, int level, int at, int y) {
        x.setStart(level, at, y);
        return 0;
    }

    private static long flag(SpringLevels x, int level, int at, int y) {
        x.setFlag(level, at, y);
        return 0;
    }

    private static long open(SpringLevels x, int level) {
        return x.open(level) ? 1 : 0;
    }

    private static void exceptions(String sentence) {
        Checks.about("Terms, Exceptions", sentence + " .. A call that throws changes nothing");
    }

    private void sceneIsAsNamed() {
        Checks.about("Terms, Runs and records", "A run is RUNNING until it is LOST or WON");
        int[] states = {SpringLevels.NONE, SpringLevels.RUNNING, SpringLevels.LOST, SpringLevels.WON,
            SpringLevels.RUNNING};
        SpringLevels x = scene.made();
        Checks.same("15: state in the scene " + scene, x.state(), states[scene.ordinal()]);
        Checks.same("24: bestPlayer in the scene " + scene, x.bestPlayer(0), 1);
        Checks.same("8: levels in the scene " + scene, levels, scene == Scene.SIX_LEVELS ? 6 : 4);
    }

    private void noSuchLevel() {
        exceptions("IndexOutOfBoundsException: there is no such level");
        for (int level : new int[] {-1, levels, 6, Integer.MIN_VALUE, Integer.MAX_VALUE}) {
            noSuch("3: setCell(" + level + ", 0, 0, EMPTY)", x -> x.setCell(level, 0, 0, EMPTY));
            noSuch("4: setStart(" + level + ", 0, 0)", x -> start(x, level, 0, 0));
            noSuch("5: setFlag(" + level + ", 0, 0)", x -> flag(x, level, 0, 0));
            noSuch("6: grow(" + level + ", 0)", x -> x.grow(level, 0));
            noSuch("7: cell(" + level + ", 0, 0)", x -> x.cell(level, 0, 0));
            noSuch("9: solve(" + level + ")", x -> x.solve(level));
            noSuch("10: way(" + level + ")", x -> x.way(level));
            noSuch("11: open(" + level + ")", x -> open(x, level));
            noSuch("12: isOpen(" + level + ")", x -> x.isOpen(level) ? 1 : 0);
            noSuch("13: begin(0, " + level + ")", x -> x.begin(0, level));
            noSuch("22: record(" + level + ", 0)", x -> x.record(level, 0));
            noSuch("23: half(" + level + ", 0)", x -> x.half(level, 0));
            noSuch("24: bestPlayer(" + level + ")", x -> x.bestPlayer(level));
            noSuch("26: replay(" + level + ", 0)", x -> x.replay(level, 0));
        }
    }

    private void noSuchCell() {
        exceptions("IndexOutOfBoundsException: there is no such level, cell");
        for (int[] cell : new int[][] {{-1, 0}, {3, 0}, {0, -1}, {0, 3}, {12, 0}, {0, 8}, {3, 2}, {-1, 1}}) {
            int at = cell[0];
            int y = cell[1];
            String where = "(0, " + at + ", " + y;
            noSuch("3: setCell" + where + ", EMPTY)", x -> x.setCell(0, at, y, EMPTY));
            noSuch("4: setStart" + where + ")", x -> start(x, 0, at, y));
            noSuch("5: setFlag" + where + ")", x -> flag(x, 0, at, y));
            noSuch("7: cell" + where + ")", x -> x.cell(0, at, y));
        }
    }

    private void noSuchPlayer() {
        exceptions("IndexOutOfBoundsException: there is no such level, cell or player");
        for (int player : new int[] {-1, 4, Integer.MIN_VALUE, Integer.MAX_VALUE}) {
            noSuch("13: begin(" + player + ", 0)", x -> x.begin(player, 0));
            noSuch("22: record(0, " + player + ")", x -> x.record(0, player));
            noSuch("23: half(0, " + player + ")", x -> x.half(0, player));
            noSuch("26: replay(0, " + player + ")", x -> x.replay(0, player));
        }
    }

    /** With six levels addLevel has a second exception, without a run that is RUNNING play has one: not the first. */
    private void anotherArgument() {
        exceptions("IllegalArgumentException: another argument is out of its range");
        badArgument("2: addLevel(1, 2)", x -> x.addLevel(1, 2));
        badArgument("2: addLevel(13, 2)", x -> x.addLevel(13, 2));
        badArgument("2: addLevel(2, 1)", x -> x.addLevel(2, 1));
        badArgument("2: addLevel(2, 9)", x -> x.addLevel(2, 9));
        badArgument("3: setCell(0, 1, 0, -1)", x -> x.setCell(0, 1, 0, -1));
        badArgument("3: setCell(0, 1, 0, 4)", x -> x.setCell(0, 1, 0, 4));
        badArgument("6: grow(0, -1)", x -> x.grow(0, -1));
        badArgument("6: grow(0, 65536)", x -> x.grow(0, 65536));
        badArgument("14: play(-1)", x -> x.play(-1));
        badArgument("14: play(6)", x -> x.play(6));
    }

    private void stateOfALevel() {
        exceptions("IllegalStateException: as the method says");
        badState("3: setCell(0, 0, 1, BLOCK), the start", x -> x.setCell(0, 0, 1, BLOCK));
        badState("3: setCell(0, 2, 1, BLOCK), the flag", x -> x.setCell(0, 2, 1, BLOCK));
        badState("4: setStart(0, 0, 2), a BLOCK", x -> start(x, 0, 0, 2));
        badState("5: setFlag(0, 2, 2), a BLOCK", x -> flag(x, 0, 2, 2));
        badState("11: open(1) without a way", x -> open(x, 1));
        badState("11: open(3) behind editing", x -> open(x, 3));
        badState("13: begin(0, 1) without a way", x -> x.begin(0, 1));
        badState("13: begin(0, 2), not open", x -> x.begin(0, 2));
        badState("13: begin(0, 3) behind editing", x -> x.begin(0, 3));
    }

    private void noRunThatIsRunning() {
        exceptions("IllegalStateException: as the method says");
        if (scene == Scene.NO_RUN || scene == Scene.LOST || scene == Scene.WON) {
            badState("14: play(0)", x -> x.play(0));
            badState("14: play(5)", x -> x.play(5));
        }
    }

    private void sixLevels() {
        exceptions("IllegalStateException: as the method says");
        if (scene == Scene.SIX_LEVELS) {
            badState("2: addLevel(2, 2)", x -> x.addLevel(2, 2));
            badState("2: addLevel(12, 8)", x -> x.addLevel(12, 8));
        }
    }

    private static final String FIRST = "If several exceptions apply, the first one of the throws clause is thrown";

    private void firstOfTheClauseOfSetCell() {
        exceptions(FIRST);
        noSuch("3: setCell(-1, 0, 0, 4)", x -> x.setCell(-1, 0, 0, 4));
        noSuch("3: setCell(6, 0, 0, -1)", x -> x.setCell(6, 0, 0, -1));
        noSuch("3: setCell(0, 3, 1, 4)", x -> x.setCell(0, 3, 1, 4));
        noSuch("3: setCell(0, 0, -1, -1)", x -> x.setCell(0, 0, -1, -1));
        noSuch("3: setCell(-1, 0, 1, BLOCK)", x -> x.setCell(-1, 0, 1, BLOCK));
        badArgument("3: setCell(0, 0, 1, 4), the start", x -> x.setCell(0, 0, 1, 4));
        badArgument("3: setCell(0, 2, 1, -1), the flag", x -> x.setCell(0, 2, 1, -1));
    }

    private void firstOfTheClauseOfGrow() {
        exceptions(FIRST);
        noSuch("6: grow(-1, -1)", x -> x.grow(-1, -1));
        noSuch("6: grow(6, 65536)", x -> x.grow(6, 65536));
    }

    private void firstOfTheClauseOfBegin() {
        exceptions(FIRST);
        noSuch("13: begin(4, 1)", x -> x.begin(4, 1));
        noSuch("13: begin(-1, 2)", x -> x.begin(-1, 2));
        noSuch("13: begin(4, 6)", x -> x.begin(4, 6));
    }
}
