/** Promises 22 to 26: record, half, bestPlayer, ghost and replay. */
public final class RecordsTest {
    private static final int NONE = SpringLevels.NONE;
    private static final int WON = SpringLevels.WON;

    private static final String[] FLAT = {"......", "......", "S....F", "######"};

    public static void main(String[] args) {
        promise22Record();
        promise22RecordOfFewerFrames();
        promise23Half();
        promise23HalfOfTheRecord();
        promise24BestPlayer();
        promise25Ghost();
        promise25GhostAfterTheRecord();
        promise26Replay();
        refused();
        Checks.end("RecordsTest");
    }

    private static SpringLevels flat() {
        SpringLevels x = new SpringLevels();
        Checks.drawOpen(x, FLAT);
        return x;
    }

    private static void win(SpringLevels x, int level, int player, String inputs) {
        Checks.win(x, level, player, inputs);
    }

    private static void recordIs(String what, SpringLevels x, int player, int frames, int half) {
        Checks.same("22: record, " + what, x.record(0, player), frames);
        Checks.same("23: half, " + what, x.half(0, player), half);
        Checks.same("26: replay, " + what, x.replay(0, player), frames);
    }

    private static void promise22Record() {
        SpringLevels fresh = new SpringLevels();
        fresh.addLevel(3, 3);
        recordIs("of a level that was never edited", fresh, 0, NONE, NONE);
        SpringLevels x = flat();
        Checks.drawOpen(x, FLAT);
        recordIs("without a run", x, 0, NONE, NONE);
        x.begin(2, 0);
        Checks.playAll(x, "2222");
        recordIs("of a run that is RUNNING", x, 2, NONE, NONE);
        x.play(2);
        recordIs("of a run that is WON", x, 2, 5, 3);
        recordIs("of another player", x, 1, NONE, NONE);
        Checks.same("22: record on another level", x.record(1, 2), NONE);
        win(x, 1, 2, "022222");
        Checks.same("22: record on another level", x.record(1, 2), 6);
        recordIs("as before", x, 2, 5, 3);
        SpringLevels lost = new SpringLevels();
        Checks.drawOpen(lost, "...", "S^F", "###");
        lost.begin(0, 0);
        lost.play(2);
        recordIs("of a LOST run", lost, 0, NONE, NONE);
    }

    private static void promise22RecordOfFewerFrames() {
        SpringLevels x = flat();
        win(x, 0, 1, "0022222");
        recordIs("first", x, 1, 7, 5);
        win(x, 0, 1, "2220022");
        recordIs("as many frames", x, 1, 7, 5);
        win(x, 0, 1, "22200022");
        recordIs("more frames", x, 1, 7, 5);
        win(x, 0, 1, "222022");
        recordIs("fewer frames", x, 1, 6, 3);
        x.begin(1, 0);
        Checks.playAll(x, "2222");
        x.begin(1, 0);
        recordIs("a run that was left", x, 1, 6, 3);
    }

    private static void promise23Half() {
        halfIs(0, "0", "F..S..", "######", "111");
        halfIs(3, "odd width", "S...F", "#####", "2222");
        halfIs(2, "even width", "S..F", "####", "222");
        halfIs(1, "width 2", "SF", "##", "2");
        halfIs(2, "the first time of several", "S..F", "####", "22122");
        halfIs(NONE, "never", "SF....", "######", "2");
        halfIs(NONE, "turned one column before it", "FS...", "#####", "211");
        halfIs(NONE, "from the middle to the left", "F.S..", "#####", "11");
        halfIs(3, "in the air", "......", "......", "S....F", "######", "52222");
    }

    /** The last text is the inputs of the run; the ones before are the rows of the level. */
    private static void halfIs(int due, String what, String... rowsAndInputs) {
        int rows = rowsAndInputs.length - 1;
        String[] drawn = java.util.Arrays.copyOf(rowsAndInputs, rows);
        SpringLevels x = new SpringLevels();
        Checks.drawOpen(x, drawn);
        win(x, 0, 3, rowsAndInputs[rows]);
        Checks.same("23: half, " + what, x.half(0, 3), due);
    }

    private static void promise23HalfOfTheRecord() {
        SpringLevels x = flat();
        win(x, 0, 0, "222022");
        win(x, 0, 1, "022222");
        recordIs("of player 0", x, 0, 6, 3);
        recordIs("of player 1", x, 1, 6, 4);
        win(x, 0, 1, "22222");
        recordIs("of player 1, fewer frames", x, 1, 5, 3);
        x.setStart(0, 4, 2);
        recordIs("after editing", x, 1, NONE, NONE);
        x.solve(0);
        x.open(0);
        win(x, 0, 1, "2");
        recordIs("from a start behind the half", x, 1, 1, 0);
    }

    private static void promise24BestPlayer() {
        SpringLevels x = flat();
        Checks.drawOpen(x, FLAT);
        Checks.same("24: bestPlayer without a record", x.bestPlayer(0), NONE);
        win(x, 0, 2, "0022222");
        Checks.same("24: bestPlayer of one", x.bestPlayer(0), 2);
        win(x, 0, 3, "0022222");
        Checks.same("24: the lowest of two", x.bestPlayer(0), 2);
        win(x, 0, 0, "00022222");
        Checks.same("24: not the lowest, but the fastest", x.bestPlayer(0), 2);
        win(x, 0, 3, "022222");
        Checks.same("24: the fastest", x.bestPlayer(0), 3);
        win(x, 0, 1, "22222");
        Checks.same("24: the fastest", x.bestPlayer(0), 1);
        win(x, 0, 0, "22222");
        Checks.same("24: the lowest of two", x.bestPlayer(0), 0);
        Checks.same("24: bestPlayer of another level", x.bestPlayer(1), NONE);
        x.grow(0, 3);
        Checks.same("24: bestPlayer after editing", x.bestPlayer(0), NONE);
        SpringLevels slow = flat();
        win(slow, 0, 3, "0".repeat(95) + "22222");
        Checks.same("24: bestPlayer with 100 frames", slow.bestPlayer(0), 3);
        Checks.same("25: ghost behind 100 frames", slow.ghost(), 205);
    }

    private static void promise25Ghost() {
        SpringLevels x = flat();
        Checks.drawOpen(x, FLAT);
        Checks.same("25: ghost without a run", x.ghost(), NONE);
        x.begin(0, 0);
        Checks.same("25: ghost without a record", x.ghost(), NONE);
        win(x, 0, 0, "5221222");
        ghostGoes(x, 3, "0000000", 200, 101, 2, 103, 202, 203, 204, 205);
        win(x, 0, 2, "022222");
        ghostGoes(x, 0, "22222", 200, 200, 201, 202, 203, 205);
        Checks.same("25: state", x.state(), WON);
        x.begin(1, 1);
        Checks.same("25: ghost on another level", x.ghost(), NONE);
        x.setCell(0, 1, 1, SpringLevels.SPIKE);
        Checks.same("25: ghost on another level", x.ghost(), NONE);
        x.begin(1, 1);
        x.setCell(1, 1, 1, SpringLevels.SPIKE);
        Checks.same("25: ghost when editing has ended the run", x.ghost(), NONE);
    }

    private static void ghostGoes(SpringLevels x, int player, String inputs, int... places) {
        x.begin(player, 0);
        Checks.same("25: ghost behind no frame", x.ghost(), places[0]);
        for (int frame = 1; frame <= inputs.length(); frame++) {
            x.play(inputs.charAt(frame - 1) - '0');
            Checks.same("25: ghost behind " + frame + " frames", x.ghost(), places[frame]);
        }
    }

    private static void promise25GhostAfterTheRecord() {
        SpringLevels x = new SpringLevels();
        Checks.drawOpen(x, "....", "S..F", "##.#");
        win(x, 0, 1, "2520");
        ghostGoes(x, 0, "00000", 100, 101, 2, 3, 103, 103);
        Checks.playAll(x, "22");
        Checks.same("25: state", x.state(), SpringLevels.RUNNING);
        x.play(0);
        Checks.same("25: ghost of a LOST run", x.state() * 1000 + x.ghost(), 1103);
    }

    private static void promise26Replay() {
        SpringLevels x = flat();
        win(x, 0, 1, "5221222");
        Checks.same("26: replay", x.replay(0, 1), 7);
        win(x, 0, 3, "22222");
        x.begin(1, 0);
        x.play(3);
        Checks.unchanged("26: replay", x, () -> {
            Checks.same("26: replay", x.replay(0, 1), 7);
            Checks.same("26: replay", x.replay(0, 3), 5);
            Checks.same("26: replay without a record", x.replay(0, 0), NONE);
        });
        x.setCell(0, 1, 2, SpringLevels.BLOCK);
        Checks.same("26: replay after editing", x.replay(0, 1), NONE);
    }

    private static void refused() {
        SpringLevels x = new SpringLevels();
        Checks.drawOpen(x, "S.F", "###");
        win(x, 0, 0, "22");
        x.begin(1, 0);
        Checks.unchanged("22 to 26: refused", x, () -> {
            for (int number : new int[] {-1, 4, 6, Integer.MIN_VALUE, Integer.MAX_VALUE}) {
                Checks.noSuch("22: record(0, " + number + ")", () -> x.record(0, number));
                Checks.noSuch("23: half(0, " + number + ")", () -> x.half(0, number));
                Checks.noSuch("26: replay(0, " + number + ")", () -> x.replay(0, number));
                Checks.noSuch("22: record(" + number + ", 0)", () -> x.record(number, 0));
                Checks.noSuch("23: half(" + number + ", 0)", () -> x.half(number, 0));
                Checks.noSuch("24: bestPlayer(" + number + ")", () -> x.bestPlayer(number));
                Checks.noSuch("26: replay(" + number + ", 0)", () -> x.replay(number, 0));
            }
            Checks.noSuch("22: record(1, 0)", () -> x.record(1, 0));
            Checks.noSuch("24: bestPlayer(1)", () -> x.bestPlayer(1));
        });
    }
}
