/** The boundary cases of the promises 22 to 26: a test for each sentence that names one. */
public final class LimitsOfRecordsTest {
    private static final int NONE = SpringLevels.NONE;
    private static final int LOST = SpringLevels.LOST;
    private static final int WON = SpringLevels.WON;
    private static final String[] FLAT = {"......", "......", "S....F", "######"};
    private static final String LATE = "0".repeat(95) + "22222";

    public static void main(String[] args) {
        noRecordsOnANewLevel();
        promise22NoneWithoutARecord();
        promise22LeastAndLargest();
        promise22FirstBetterEqualAndWorse();
        promise22NoneOfALostRun();
        promise22NoneBehindEditing();
        promise22NoSuchLevelOrPlayer();
        promise23NoneWithoutARecord();
        promise23NeverCameSoFar();
        promise23StartIsThere();
        promise23ExactlyHalf();
        promise23InTheLastFrame();
        promise23OfTheRecord();
        promise23NoSuchLevelOrPlayer();
        promise24NoneWithoutARecord();
        promise24FirstAndLastPlayer();
        promise24OfSeveral();
        promise24With100Frames();
        promise24NoSuchLevel();
        promise25NoneWithoutARun();
        promise25NoneWithoutARecordOnItsLevel();
        promise25BehindNoFrame();
        promise25BehindAsManyFrames();
        promise25BehindAllOfThem();
        promise25OfTheLowestOfSeveral();
        promise25OfARunThatIsOver();
        promise25BehindANewRecord();
        promise25RowAndColumn();
        promise25Behind100Frames();
        promise26NoneWithoutARecord();
        promise26LeastAndLargest();
        promise26EachInput();
        promise26ChangesNoRun();
        promise26NoSuchLevelOrPlayer();
        Checks.end("LimitsOfRecordsTest");
    }

    private static SpringLevels flat() {
        SpringLevels x = new SpringLevels();
        Checks.drawOpen(x, FLAT);
        return x;
    }

    private static final int[][] NEITHER = {{-1, 0}, {1, 0}, {5, 0}, {6, 0}, {0, -1}, {0, 4}, {0, 5}, {1, 4}, {-1, -1},
        {Integer.MIN_VALUE, 0}, {Integer.MAX_VALUE, 0}, {0, Integer.MIN_VALUE}, {0, Integer.MAX_VALUE}};

    /** The level is never edited: no editing has taken its records away. */
    private static void noRecordsOnANewLevel() {
        Checks.about("Promises 22 to 26", "NONE if there is no record");
        SpringLevels x = new SpringLevels();
        x.addLevel(4, 3);
        for (int player = 0; player < 4; player++) {
            Checks.same("22: record of a new level", x.record(0, player), NONE);
            Checks.same("23: half of a new level", x.half(0, player), NONE);
            Checks.same("26: replay on a new level", x.replay(0, player), NONE);
        }
        Checks.same("24: bestPlayer of a new level", x.bestPlayer(0), NONE);
        x.solve(0);
        x.open(0);
        x.begin(0, 0);
        Checks.same("25: ghost on a new level", x.ghost(), NONE);
        Checks.playAll(x, "222");
        Checks.same("22: record of the first run", x.record(0, 0), 3);
        Checks.same("23: half of the first run", x.half(0, 0), 2);
        Checks.same("23: half of another player", x.half(0, 1), NONE);
    }

    // ---- promise 22

    private static void promise22NoneWithoutARecord() {
        Checks.about("Promise 22", "NONE if there is no record");
        SpringLevels x = flat();
        for (int player = 0; player < 4; player++) {
            Checks.same("22: record of an open level", x.record(0, player), NONE);
        }
        x.addLevel(2, 2);
        Checks.same("22: record of a level that is not open", x.record(1, 0), NONE);
        x.begin(0, 0);
        Checks.playAll(x, "2222");
        Checks.same("22: record while the run is RUNNING", x.record(0, 0), NONE);
        x.begin(1, 0);
        Checks.same("22: record of a run that was left", x.record(0, 0), NONE);
    }

    private static void promise22LeastAndLargest() {
        Checks.about("Promise 22", "Returns the frames of a record");
        SpringLevels x = new SpringLevels();
        Checks.drawOpen(x, "SF", "##");
        Checks.win(x, 0, 0, "2");
        Checks.same("22: record of 1 frame", x.record(0, 0), 1);
        Checks.win(x, 0, 3, "0".repeat(99) + "2");
        Checks.same("22: record of 100 frames", x.record(0, 3), 100);
        Checks.win(x, 0, 3, "0".repeat(98) + "2");
        Checks.same("22: record of 99 frames", x.record(0, 3), 99);
    }

    private static void promise22FirstBetterEqualAndWorse() {
        Checks.about("Promise 22", "Returns the frames of a record");
        SpringLevels x = flat();
        String[] runs = {"0022222", "00022222", "0202222", "022222", "0022222", "22222", "022222"};
        int[] records = {7, 7, 7, 6, 6, 5, 5};
        for (int run = 0; run < runs.length; run++) {
            Checks.win(x, 0, 2, runs[run]);
            Checks.same("22: record behind the run " + runs[run], x.record(0, 2), records[run]);
        }
    }

    private static void promise22NoneOfALostRun() {
        Checks.about("Promise 22", "NONE if there is no record");
        SpringLevels x = flat();
        x.begin(0, 0);
        Checks.playAll(x, "0".repeat(100));
        Checks.same("15: state", x.state(), LOST);
        Checks.same("22: record behind 100 frames", x.record(0, 0), NONE);
        Checks.win(x, 0, 0, LATE);
        x.begin(0, 0);
        Checks.playAll(x, "0".repeat(100));
        Checks.same("22: record behind a LOST run", x.record(0, 0), 100);
    }

    private static void promise22NoneBehindEditing() {
        Checks.about("Promise 22", "NONE if there is no record");
        SpringLevels x = flat();
        Checks.win(x, 0, 0, "22222");
        Checks.badArgument("3: setCell refused", () -> x.setCell(0, 1, 1, 4));
        Checks.same("22: record behind a refused setCell", x.record(0, 0), 5);
        x.setCell(0, 1, 1, SpringLevels.EMPTY);
        Checks.same("22: record behind setCell", x.record(0, 0), NONE);
        x.solve(0);
        x.open(0);
        Checks.win(x, 0, 0, "022222");
        Checks.same("22: record, more frames than the one before editing", x.record(0, 0), 6);
    }

    private static void promise22NoSuchLevelOrPlayer() {
        Checks.about("Promise 22", "Throws IndexOutOfBoundsException if there is no such level or player");
        SpringLevels x = flat();
        for (int[] at : NEITHER) {
            Checks.noSuch("22: record(" + at[0] + ", " + at[1] + ")", () -> x.record(at[0], at[1]));
        }
        Checks.noSuch("22: record(0, 0) without a level", () -> new SpringLevels().record(0, 0));
    }

    // ---- promise 23

    private static void halfIs(int due, String inputs, String... rows) {
        SpringLevels x = new SpringLevels();
        Checks.drawOpen(x, rows);
        Checks.win(x, 0, 3, inputs);
        Checks.same("23: half of the run " + inputs + " on " + String.join("/", rows), x.half(0, 3), due);
    }

    private static void promise23NoneWithoutARecord() {
        Checks.about("Promise 23", "NONE if there is no record");
        SpringLevels x = flat();
        x.begin(0, 0);
        Checks.playAll(x, "2222");
        for (int player = 0; player < 4; player++) {
            Checks.same("23: half", x.half(0, player), NONE);
        }
        x.begin(0, 0);
        Checks.playAll(x, "222" + "0".repeat(97));
        Checks.same("23: half behind a LOST run", x.half(0, 0), NONE);
        Checks.win(x, 0, 0, "22222");
        Checks.same("23: half", x.half(0, 0), 3);
        x.setFlag(0, 5, 2);
        Checks.same("23: half behind editing", x.half(0, 0), NONE);
    }

    private static void promise23NeverCameSoFar() {
        Checks.about("Promise 23", "or the hero never came so far");
        halfIs(NONE, "2", "SF....", "######");
        halfIs(NONE, "1", "FS....", "######");
        halfIs(NONE, "211", "FS....", "######");
        halfIs(2, "22111", "FS....", "######");
    }

    private static void promise23StartIsThere() {
        Checks.about("Terms, Runs and records", "0 if the start is there");
        halfIs(0, "2", "....SF", "######");
        halfIs(0, "111", "F..S..", "######");
        halfIs(NONE, "11", "F.S...", "######");
    }

    private static void promise23ExactlyHalf() {
        Checks.about("Terms, Runs and records", "a column of at least half the width (x * 2 at least the width)");
        halfIs(3, "222", "S..F..", "######");
        halfIs(NONE, "222", "S..F...", "#######");
        halfIs(4, "2222", "S...F..", "#######");
    }

    private static void promise23InTheLastFrame() {
        Checks.about("Promise 23", "Returns the frames");
        halfIs(1, "2", "SF", "##");
        halfIs(100, "0".repeat(99) + "2", "SF", "##");
    }

    private static void promise23OfTheRecord() {
        Checks.about("Promise 23", "Returns the half of the run of a record");
        SpringLevels x = flat();
        Checks.win(x, 0, 0, "0022222");
        Checks.same("23: half of the first run", x.half(0, 0), 5);
        Checks.win(x, 0, 0, "2220022");
        Checks.same("23: half behind a run of as many frames", x.half(0, 0), 5);
        Checks.win(x, 0, 0, "22200022");
        Checks.same("23: half behind a run of more frames", x.half(0, 0), 5);
        Checks.win(x, 0, 0, "222022");
        Checks.same("23: half behind a run of fewer frames", x.half(0, 0), 3);
        x.begin(0, 0);
        Checks.playAll(x, "222");
        Checks.same("23: half while a run is RUNNING", x.half(0, 0), 3);
    }

    private static void promise23NoSuchLevelOrPlayer() {
        Checks.about("Promise 23", "Throws IndexOutOfBoundsException if there is no such level or player");
        SpringLevels x = flat();
        for (int[] at : NEITHER) {
            Checks.noSuch("23: half(" + at[0] + ", " + at[1] + ")", () -> x.half(at[0], at[1]));
        }
        Checks.noSuch("23: half(0, 0) without a level", () -> new SpringLevels().half(0, 0));
    }

    // ---- promise 24

    private static void promise24NoneWithoutARecord() {
        Checks.about("Promise 24", "NONE if there is no record");
        SpringLevels x = flat();
        Checks.drawOpen(x, FLAT);
        Checks.same("24: bestPlayer", x.bestPlayer(0), NONE);
        x.begin(0, 0);
        Checks.playAll(x, "2222");
        Checks.same("24: bestPlayer while the run is RUNNING", x.bestPlayer(0), NONE);
        x.play(2);
        Checks.same("24: bestPlayer", x.bestPlayer(0), 0);
        Checks.same("24: bestPlayer of another level", x.bestPlayer(1), NONE);
        x.setStart(0, 0, 2);
        Checks.same("24: bestPlayer behind editing", x.bestPlayer(0), NONE);
    }

    private static void promise24FirstAndLastPlayer() {
        Checks.about("Promise 24", "Returns the player");
        for (int player = 0; player < 4; player++) {
            SpringLevels x = flat();
            Checks.win(x, 0, player, "22222");
            Checks.same("24: bestPlayer, one record alone", x.bestPlayer(0), player);
        }
    }

    private static void promise24OfSeveral() {
        Checks.about("Terms, Runs and records", "of the fewest frames, of several the lowest");
        SpringLevels x = flat();
        Checks.win(x, 0, 3, "022222");
        Checks.win(x, 0, 2, "022222");
        Checks.win(x, 0, 0, "0022222");
        Checks.same("24: bestPlayer: 2 and 3 are as fast", x.bestPlayer(0), 2);
        Checks.win(x, 0, 3, "22222");
        Checks.same("24: bestPlayer: 3 is faster", x.bestPlayer(0), 3);
        Checks.win(x, 0, 1, "22222");
        Checks.same("24: bestPlayer: 1 and 3 are as fast", x.bestPlayer(0), 1);
        Checks.win(x, 0, 0, "22222");
        Checks.same("24: bestPlayer: 0, 1 and 3 are as fast", x.bestPlayer(0), 0);
    }

    private static void promise24With100Frames() {
        Checks.about("Promise 24", "Returns the best player of a level");
        SpringLevels x = flat();
        Checks.win(x, 0, 3, LATE);
        Checks.same("24: bestPlayer with 100 frames", x.bestPlayer(0), 3);
        Checks.win(x, 0, 2, LATE);
        Checks.same("24: bestPlayer, both with 100 frames", x.bestPlayer(0), 2);
        Checks.win(x, 0, 3, LATE.substring(1));
        Checks.same("24: bestPlayer with 99 frames", x.bestPlayer(0), 3);
    }

    private static void promise24NoSuchLevel() {
        Checks.about("Promise 24", "Throws IndexOutOfBoundsException if there is no such level");
        SpringLevels x = flat();
        for (int level : new int[] {-1, 1, 5, 6, Integer.MIN_VALUE, Integer.MAX_VALUE}) {
            Checks.noSuch("24: bestPlayer(" + level + ")", () -> x.bestPlayer(level));
        }
        Checks.noSuch("24: bestPlayer(0) without a level", () -> new SpringLevels().bestPlayer(0));
    }

    // ---- promise 25

    private static final String GHOST_NONE = "NONE if there is no run, or no record on its level";

    private static void promise25NoneWithoutARun() {
        Checks.about("Promise 25", GHOST_NONE);
        Checks.same("25: ghost of a new object", new SpringLevels().ghost(), NONE);
        SpringLevels x = flat();
        Checks.drawOpen(x, FLAT);
        Checks.same("25: ghost before begin", x.ghost(), NONE);
        Checks.win(x, 0, 0, "22222");
        Checks.win(x, 1, 0, "22222");
        x.begin(0, 1);
        x.setCell(1, 0, 0, SpringLevels.SPIKE);
        Checks.same("25: ghost when editing has ended the run", x.ghost(), NONE);
    }

    private static void promise25NoneWithoutARecordOnItsLevel() {
        Checks.about("Promise 25", GHOST_NONE);
        SpringLevels x = flat();
        Checks.drawOpen(x, FLAT);
        Checks.win(x, 0, 0, "22222");
        x.begin(0, 1);
        Checks.same("25: ghost, a record on another level alone", x.ghost(), NONE);
        Checks.playAll(x, "2222");
        Checks.same("25: ghost before the win", x.ghost(), NONE);
        x.begin(2, 0);
        Checks.same("25: ghost on the level with the record", x.ghost(), 200);
    }

    private static void promise25BehindNoFrame() {
        Checks.about("Promise 25", "behind as many frames as the run has had");
        SpringLevels x = flat();
        Checks.win(x, 0, 0, "22222");
        x.begin(1, 0);
        Checks.same("25: ghost behind no frame", x.ghost(), 200);
        x.play(3);
        Checks.same("25: ghost behind one frame", x.ghost(), 201);
        x.begin(1, 0);
        Checks.same("25: ghost of a run that is begun anew", x.ghost(), 200);
    }

    private static void promise25BehindAsManyFrames() {
        Checks.about("Promise 25", "behind as many frames as the run has had");
        SpringLevels x = flat();
        Checks.win(x, 0, 2, "5221222");
        x.begin(1, 0);
        int[] places = {200, 101, 2, 103, 202, 203, 204, 205};
        for (int frame = 0; frame < places.length; frame++) {
            Checks.same("25: ghost behind " + frame + " frames", x.ghost(), places[frame]);
            Checks.same("25: ghost, asked again", x.ghost(), places[frame]);
            x.play(0);
        }
    }

    private static void promise25BehindAllOfThem() {
        Checks.about("Promise 25", "or all of them, if that has fewer");
        SpringLevels x = flat();
        Checks.win(x, 0, 0, "22222");
        x.begin(1, 0);
        Checks.playAll(x, "0000");
        Checks.same("25: ghost behind 4 frames", x.ghost(), 204);
        for (int frame = 5; frame <= 100; frame++) {
            x.play(0);
            Checks.same("25: ghost behind " + frame + " frames", x.ghost(), 205);
        }
        Checks.same("15: state", x.state(), LOST);
    }

    /** Both records have 6 frames, but are in other places behind the first. */
    private static void promise25OfTheLowestOfSeveral() {
        Checks.about("Promise 25", "the hero of the record of the best player of the level of the run");
        SpringLevels x = flat();
        Checks.win(x, 0, 2, "022222");
        Checks.win(x, 0, 1, "202222");
        Checks.win(x, 0, 0, "3000022222");
        x.begin(3, 0);
        x.play(0);
        Checks.same("25: ghost of player 1, not of 2 or 0", x.ghost(), 201);
        Checks.win(x, 0, 3, "22222");
        x.begin(3, 0);
        Checks.playAll(x, "00");
        Checks.same("25: ghost of the player's own record", x.ghost(), 202);
    }

    private static void promise25OfARunThatIsOver() {
        Checks.about("Promise 25", "behind as many frames as the run has had");
        SpringLevels x = new SpringLevels();
        Checks.drawOpen(x, "^...", "S..F", "####");
        Checks.win(x, 0, 0, "0222");
        x.begin(1, 0);
        x.play(3);
        Checks.same("25: ghost of a LOST run", x.state() * 1000 + x.ghost(), 1000 * LOST + 100);
        Checks.win(x, 0, 1, "00222");
        Checks.same("25: ghost of a WON run", x.state() * 1000 + x.ghost(), 1000 * WON + 103);
    }

    private static void promise25BehindANewRecord() {
        Checks.about("Promise 25", "the hero of the record of the best player of the level of the run");
        SpringLevels x = flat();
        Checks.win(x, 0, 0, "0".repeat(10) + "22222");
        x.begin(1, 0);
        Checks.playAll(x, "2222");
        Checks.same("25: ghost before the win", x.ghost(), 200);
        x.play(2);
        Checks.same("25: ghost behind the win, of the new record", x.ghost(), 205);
    }

    private static void promise25RowAndColumn() {
        Checks.about("Promise 25", "Returns 100 times the row, and the column, together");
        SpringLevels x = new SpringLevels();
        Checks.drawOpen(x, "...........S", "............", "............", "............", "............",
            "............", "............", "...........F");
        Checks.win(x, 0, 0, "0000000");
        x.begin(1, 0);
        for (int row = 0; row < 8; row++) {
            Checks.same("25: ghost in column 11", x.ghost(), 100 * row + 11);
            Checks.playAll(x, row < 7 ? "2" : "");
        }
        x.setStart(0, 0, 0);
        x.setFlag(0, 0, 1);
        x.solve(0);
        x.open(0);
        Checks.win(x, 0, 0, "0");
        Checks.same("25: ghost in column 0", x.ghost(), 100);
        x.begin(0, 0);
        Checks.same("25: ghost in column 0 of the top row", x.ghost(), 0);
    }

    private static void promise25Behind100Frames() {
        Checks.about("Promise 25", "behind as many frames as the run has had");
        SpringLevels x = flat();
        Checks.win(x, 0, 3, LATE);
        Checks.same("25: ghost behind 100 frames", x.ghost(), 205);
        x.begin(0, 0);
        Checks.playAll(x, "0".repeat(99));
        Checks.same("25: ghost behind 99 frames", x.ghost(), 204);
        x.play(0);
        Checks.same("25: ghost behind 100 frames of a LOST run", x.ghost(), 205);
    }

    // ---- promise 26

    private static void promise26NoneWithoutARecord() {
        Checks.about("Promise 26", "NONE if there is no record");
        SpringLevels x = flat();
        Checks.same("26: replay", x.replay(0, 0), NONE);
        x.begin(0, 0);
        Checks.playAll(x, "2222");
        Checks.same("26: replay while the run is RUNNING", x.replay(0, 0), NONE);
        x.play(2);
        Checks.same("26: replay", x.replay(0, 0), 5);
        Checks.same("26: replay of another player", x.replay(0, 1), NONE);
        x.setCell(0, 0, 0, SpringLevels.SPIKE);
        Checks.same("26: replay behind editing", x.replay(0, 0), NONE);
    }

    private static void promise26LeastAndLargest() {
        Checks.about("Promise 26", "Returns behind how many frames it is WON");
        SpringLevels x = new SpringLevels();
        Checks.drawOpen(x, "SF", "##");
        Checks.win(x, 0, 0, "2");
        Checks.win(x, 0, 1, "0".repeat(99) + "2");
        Checks.same("26: replay of 1 frame", x.replay(0, 0), 1);
        Checks.same("26: replay of 100 frames", x.replay(0, 1), 100);
    }

    private static void promise26EachInput() {
        Checks.about("Promise 26", "Plays the inputs of a record again, frame by frame");
        SpringLevels x = flat();
        String[] runs = {"0122222", "3000022222", "422222", "5221222"};
        for (int player = 0; player < 4; player++) {
            Checks.win(x, 0, player, runs[player]);
        }
        for (int player = 0; player < 4; player++) {
            Checks.same("26: replay of the run " + runs[player], x.replay(0, player), runs[player].length());
        }
    }

    private static void promise26ChangesNoRun() {
        Checks.about("Promise 26", "Plays the inputs of a record again, frame by frame");
        SpringLevels x = flat();
        Checks.win(x, 0, 0, "5221222");
        x.begin(1, 0);
        Checks.playAll(x, "03");
        Checks.unchanged("26: replay", x, () -> Checks.same("26: replay", x.replay(0, 0), 7));
        Checks.goes(x, "0 0:3:0,0,0", "0 0:4:0,1,0");
        Checks.same("26: replay again", x.replay(0, 0), 7);
    }

    private static void promise26NoSuchLevelOrPlayer() {
        Checks.about("Promise 26", "Throws IndexOutOfBoundsException if there is no such level or player");
        SpringLevels x = flat();
        for (int[] at : NEITHER) {
            Checks.noSuch("26: replay(" + at[0] + ", " + at[1] + ")", () -> x.replay(at[0], at[1]));
        }
        Checks.noSuch("26: replay(0, 0) without a level", () -> new SpringLevels().replay(0, 0));
    }
}
