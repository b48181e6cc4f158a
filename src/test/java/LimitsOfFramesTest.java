/** The boundary cases of "Terms", Frames: a test for each sentence, and for each part of one that has its own limit. */
public final class LimitsOfFramesTest {
    private static final int RUNNING = SpringLevels.RUNNING;
    private static final int LOST = SpringLevels.LOST;
    private static final int WON = SpringLevels.WON;

    public static void main(String[] args) {
        liftIsZeroAtFirst();
        aStartAtASpikeIsNotLookedAt();
        aStartAtASpringIsNotLookedAt();
        aStartAtTheFlagIsNotLookedAt();
        theInputsFrom0To5();
        onlyAJumpMakesTheLift2();
        aJumpNeedsABlockBelow();
        aJumpFromTheLowestRow();
        aJumpLooksRightBelow();
        aJumpLooksBelowBeforeTheHeroGoes();
        aJumpMakesALiftOf4ALiftOf2();
        theLeftmostColumn();
        theRightmostColumn();
        aBlockBeside();
        aSpikeOrASpringBesideIsNoBlock();
        sidewaysInTheAir();
        sidewaysIsAlongTheOldRow();
        sidewaysIsNotLookedAt();
        theTopRow();
        aBlockAbove();
        aBlockAboveTheNextColumn();
        aSpikeOrASpringAboveIsNoBlock();
        theLiftBecomes1Less();
        noFallInTheFrameThatEndsTheLift();
        oneCellDownAFrame();
        aSpikeOrASpringBelowIsNoBlock();
        aBlockBelowHolds();
        outFromTheLowestRow();
        aLiftInTheLowestRow();
        aBlockAboveTheLowestRow();
        atASpike();
        atASpringWhileRising();
        atASpringBelowTheTop();
        aFlagAtASpike();
        aFlagAtASpring();
        theFlagWhileRisingAndFalling();
        runningAsLongAsNothingHappens();
        lostBehind100Frames();
        wonInFrame100();
        lostAtASpikeInFrame100();
        lostOutOfTheLevelInFrame100();
        Checks.end("LimitsOfFramesTest");
    }

    private static void frames(String sentence) {
        Checks.about("Terms, Frames", sentence);
    }

    private static void heroIs(SpringLevels x, String due) {
        Checks.same("15 to 19: the hero", Checks.hero(x), due);
    }

    /** From the begin of a run on a level that is drawn so: each step as in Checks.goes. */
    private static void goes(String[] rows, String... steps) {
        Checks.goes(Checks.begun(rows), steps);
    }

    private static String[] rows(String... rows) {
        return rows;
    }

    private static void liftIsZeroAtFirst() {
        frames("The hero is at a cell and has a lift, 0 at first, and begins at the start");
        heroIs(Checks.begun("...", "S.F", "###"), "0:0:0,1,0");
        heroIs(Checks.begun("S.", ".F"), "0:0:0,0,0");
        heroIs(Checks.begun("F.", ".S", "##"), "0:0:1,1,0");
    }

    private static void aStartAtASpikeIsNotLookedAt() {
        frames("begins at the start, where nothing is looked at");
        SpringLevels x = Checks.begun("..F", "S..", "###");
        x.setCell(0, 0, 1, SpringLevels.SPIKE);
        Checks.beginAgain(x);
        heroIs(x, "0:0:0,1,0");
        Checks.goes(x, "5 0:1:1,0,1", "2 2:2:2,0,0");
        x.begin(0, 0);
        Checks.goes(x, "0 1:1:0,1,0");
    }

    private static void aStartAtASpringIsNotLookedAt() {
        frames("begins at the start, where nothing is looked at");
        SpringLevels x = Checks.begun("...", "...", "S.F", "###");
        x.setCell(0, 0, 2, SpringLevels.SPRING);
        Checks.beginAgain(x);
        heroIs(x, "0:0:0,2,0");
        Checks.goes(x, "0 0:1:0,2,4", "0 0:2:0,1,3");
        x.begin(0, 0);
        Checks.goes(x, "2 0:1:1,2,0");
    }

    private static void aStartAtTheFlagIsNotLookedAt() {
        frames("begins at the start, where nothing is looked at");
        SpringLevels x = Checks.begun("...", "S.F", "###");
        x.setFlag(0, 0, 1);
        Checks.beginAgain(x);
        heroIs(x, "0:0:0,1,0");
        Checks.goes(x, "2 0:1:1,1,0", "1 2:2:0,1,0");
        x.begin(0, 0);
        Checks.goes(x, "0 2:1:0,1,0");
    }

    private static void theInputsFrom0To5() {
        frames("0 nothing, 1 to the left, 2 to the right, 3 a jump, 4 a jump to the left, 5 a jump to the right");
        String[] rows = {".....", ".....", "..S.F", "#####"};
        goes(rows, "0 0:1:2,2,0");
        goes(rows, "1 0:1:1,2,0");
        goes(rows, "2 0:1:3,2,0");
        goes(rows, "3 0:1:2,1,1");
        goes(rows, "4 0:1:1,1,1");
        goes(rows, "5 0:1:3,1,1");
    }

    private static void onlyAJumpMakesTheLift2() {
        frames("If the input is a jump, and there is a BLOCK right below the hero, the lift becomes 2");
        String[] rows = {".....", ".....", ".....", "..S.F", "#####"};
        goes(rows, "3 0:1:2,2,1", "0 0:2:2,1,0", "0 0:3:2,2,0", "0 0:4:2,3,0");
        goes(rows, "2 0:1:3,3,0", "1 0:2:2,3,0", "0 0:3:2,3,0");
    }

    private static void aJumpNeedsABlockBelow() {
        frames("If the input is a jump, and there is a BLOCK right below the hero, the lift becomes 2");
        goes(rows("....", "S..F", "...#", "####"), "3 0:1:0,2,0");
        goes(rows("....", "S..F", "...#", "####"), "4 0:1:0,2,0");
        goes(rows("....", "S..F", "...#", "####"), "5 0:1:1,2,0");
        goes(rows("...", "S.F", "^##"), "3 1:1:0,2,0");
        goes(rows("....", "....", "S..F", "o###"), "3 0:1:0,3,4");
        goes(rows("S..F", "o###", "####"), "0 0:1:0,1,4", "0 0:2:0,0,3");
    }

    private static void aJumpFromTheLowestRow() {
        frames("If the input is a jump, and there is a BLOCK right below the hero, the lift becomes 2");
        goes(rows("S.F", ".##", ".##"), "0 0:1:0,1,0", "0 0:2:0,2,0", "3 1:3:0,3,0");
        goes(rows("...", "...", "...", "S.F", "o##"), "0 0:1:0,4,4", "3 0:2:0,3,3");
    }

    private static void aJumpLooksRightBelow() {
        frames("there is a BLOCK right below the hero");
        String[] rows = {".....", ".....", ".S.F.", "#.###", "#####"};
        goes(rows, "3 0:1:1,3,0");
        goes(rows("...", "...", "S.F", "...", "###"), "3 0:1:0,3,0", "3 0:2:0,2,1");
    }

    private static void aJumpLooksBelowBeforeTheHeroGoes() {
        frames("If the input is a jump, and there is a BLOCK right below the hero, the lift becomes 2");
        goes(rows("....", "....", "S..F", ".###", "####"), "5 0:1:1,2,0");
        goes(rows("....", "....", "S..F", "#..#", "####"), "5 0:1:1,1,1");
        goes(rows("....", "....", "F..S", "###.", "####"), "4 0:1:2,2,0");
        goes(rows("....", "....", "F..S", "#..#", "####"), "4 0:1:2,1,1");
    }

    private static void aJumpMakesALiftOf4ALiftOf2() {
        frames("If the input is a jump, and there is a BLOCK right below the hero, the lift becomes 2");
        String[] rows = {"....", "....", "....", "So.F", "####"};
        goes(rows, "2 0:1:1,3,4", "3 0:2:1,2,1", "0 0:3:1,1,0", "0 0:4:1,2,0");
        goes(rows, "2 0:1:1,3,4", "5 0:2:2,2,1");
        goes(rows, "2 0:1:1,3,4", "2 0:2:2,2,3");
    }

    private static void theLeftmostColumn() {
        frames("the hero goes one cell there, if that is a cell of the level, and no BLOCK");
        String[] rows = {"...", "S.F", "###"};
        goes(rows, "1 0:1:0,1,0");
        goes(rows, "4 0:1:0,0,1");
        goes(rows("F.S", "###"), "1 0:1:1,0,0", "1 2:2:0,0,0");
    }

    private static void theRightmostColumn() {
        frames("the hero goes one cell there, if that is a cell of the level, and no BLOCK");
        goes(rows("...", "F.S", "###"), "2 0:1:2,1,0");
        goes(rows("...", "F.S", "###"), "5 0:1:2,0,1");
        goes(rows("............", "F..........S", "############"), "2 0:1:11,1,0", "5 0:2:11,0,1");
        goes(rows("..", "FS", "##"), "2 0:1:1,1,0", "5 0:2:1,0,1");
        goes(rows("S.F", "###"), "2 0:1:1,0,0", "2 2:2:2,0,0");
    }

    private static void aBlockBeside() {
        frames("the hero goes one cell there, if that is a cell of the level, and no BLOCK");
        String[] rows = {"....", "#S#F", "####"};
        goes(rows, "1 0:1:1,1,0");
        goes(rows, "2 0:1:1,1,0");
        goes(rows, "4 0:1:1,0,1");
        goes(rows, "5 0:1:1,0,1");
    }

    private static void aSpikeOrASpringBesideIsNoBlock() {
        frames("the hero goes one cell there, if that is a cell of the level, and no BLOCK");
        String[] rows = {"....", "^SoF", "####"};
        goes(rows, "1 1:1:0,1,0");
        goes(rows, "2 0:1:2,1,4");
    }

    private static void sidewaysInTheAir() {
        frames("If the input is to the left or to the right (1, 2, 4 or 5, with a jump or without one)");
        String[] rows = {"..S..", ".....", "....F", "#####"};
        goes(rows, "1 0:1:1,1,0");
        goes(rows, "2 0:1:3,1,0");
        goes(rows, "4 0:1:1,1,0");
        goes(rows, "5 0:1:3,1,0");
        goes(rows, "0 0:1:2,1,0");
        goes(rows, "3 0:1:2,1,0");
    }

    private static void sidewaysIsAlongTheOldRow() {
        frames("the hero goes one cell there, if that is a cell of the level, and no BLOCK");
        goes(rows("...", "S#F", "###"), "5 0:1:0,0,1", "2 0:2:1,0,0");
        goes(rows("S..", ".#F", "###"), "2 0:1:1,0,0");
        goes(rows("....", "S#.F", "..##", "####"), "2 0:1:0,2,0");
    }

    private static void sidewaysIsNotLookedAt() {
        frames("at a SPIKE, the run is LOST. Otherwise: at a SPRING the lift becomes 4; at the flag the run is WON");
        goes(rows("...", "S^F", "###"), "5 0:1:1,0,1");
        goes(rows("...", "...", "SoF", "###"), "5 0:1:1,1,1");
        goes(rows("...", "SF.", "###"), "5 0:1:1,0,1");
        goes(rows("S^F", "...", "###"), "2 0:1:1,1,0", "5 2:2:2,0,1");
        goes(rows("SF.", "...", "###"), "2 0:1:1,1,0");
    }

    private static void theTopRow() {
        frames("the hero goes one cell up .., if that is a cell of the level, and no BLOCK; otherwise ..");
        goes(rows("S.F", "###"), "3 0:1:0,0,0", "0 0:2:0,0,0");
        goes(rows("S.F", "###"), "5 0:1:1,0,0");
        goes(rows("...", "SoF", "###"), "2 0:1:1,1,4", "0 0:2:1,0,3", "0 0:3:1,0,0", "0 0:4:1,1,4");
        goes(rows("...", "S.F", "###"), "3 0:1:0,0,1", "0 0:2:0,0,0", "0 0:3:0,1,0");
    }

    private static void aBlockAbove() {
        frames("the hero goes one cell up .., if that is a cell of the level, and no BLOCK; otherwise ..");
        goes(rows("...", "#..", "S.F", "###"), "3 0:1:0,2,0", "0 0:2:0,2,0");
        goes(rows("#..", "...", "S.F", "###"), "3 0:1:0,1,1", "0 0:2:0,1,0", "0 0:3:0,2,0");
        goes(rows(".#.", "...", "SoF", "###"), "2 0:1:1,2,4", "0 0:2:1,1,3", "0 0:3:1,1,0", "0 0:4:1,2,4");
    }

    private static void aBlockAboveTheNextColumn() {
        frames("the hero goes one cell up and the lift becomes 1 less, if that is .. no BLOCK");
        goes(rows(".#.", "S.F", "###"), "5 0:1:1,1,0");
        goes(rows("#..", "S.F", "###"), "5 0:1:1,0,1");
    }

    private static void aSpikeOrASpringAboveIsNoBlock() {
        frames("the hero goes one cell up and the lift becomes 1 less, if that is a cell of the level, and no BLOCK");
        goes(rows("...", "^..", "S.F", "###"), "3 1:1:0,1,1");
        goes(rows("...", "o..", "S.F", "###"), "3 0:1:0,1,4", "0 0:2:0,0,3");
    }

    private static void theLiftBecomes1Less() {
        frames("the hero goes one cell up and the lift becomes 1 less");
        goes(rows("...", "...", "...", "...", "...", "SoF", "###"), "2 0:1:1,5,4", "0 0:2:1,4,3", "0 0:3:1,3,2",
            "0 0:4:1,2,1", "0 0:5:1,1,0", "0 0:6:1,2,0");
    }

    private static void noFallInTheFrameThatEndsTheLift() {
        frames("If the lift was 0 already: the hero goes one cell down");
        goes(rows("...", "...", "...", "S.F", "###"), "3 0:1:0,2,1", "0 0:2:0,1,0", "0 0:3:0,2,0", "0 0:4:0,3,0");
        goes(rows("#..", "...", "S.F", "###"), "3 0:1:0,1,1", "0 0:2:0,1,0", "0 0:3:0,2,0");
    }

    private static void oneCellDownAFrame() {
        frames("the hero goes one cell down, if there is no BLOCK right below");
        goes(rows("S..", "...", "...", "..F", "###"), "0 0:1:0,1,0", "0 0:2:0,2,0", "0 0:3:0,3,0", "0 0:4:0,3,0");
        goes(rows("S..", "#..", "#..", "#.F", "###"), "2 0:1:1,1,0", "2 0:2:2,2,0", "1 0:3:1,3,0", "2 2:4:2,3,0");
    }

    private static void aSpikeOrASpringBelowIsNoBlock() {
        frames("the hero goes one cell down, if there is no BLOCK right below");
        goes(rows("S.F", "^##"), "0 1:1:0,1,0");
        goes(rows("S.F", "o##"), "0 0:1:0,1,4");
    }

    private static void aBlockBelowHolds() {
        frames("the hero goes one cell down, if there is no BLOCK right below");
        goes(rows("S.F", "###"), "0 0:1:0,0,0", "0 0:2:0,0,0", "2 0:3:1,0,0");
        goes(rows("S..", "#.F", "..."), "0 0:1:0,0,0", "2 0:2:1,1,0", "2 0:3:2,2,0");
    }

    private static void outFromTheLowestRow() {
        frames("from the lowest row that leads out of the level. 4. If the hero is out of the level");
        goes(rows("S..", ".F#"), "0 0:1:0,1,0", "0 1:2:0,2,0");
        goes(rows("S..", ".F#"), "0 0:1:0,1,0", "2 1:2:1,2,0");
        goes(rows("...", "...", "...", "...", "...", "...", "S.F", ".##"), "0 0:1:0,7,0", "0 1:2:0,8,0");
        goes(rows("...", "S.F", "#.#"), "2 0:1:1,2,0", "2 1:2:1,3,0");
    }

    private static void aLiftInTheLowestRow() {
        frames("If the lift was 0 already: .. from the lowest row that leads out of the level");
        goes(rows("S.F", "o##"), "0 0:1:0,1,4", "0 0:2:0,0,3");
        goes(rows("...", "S.F", "#o#"), "2 0:1:1,2,4", "0 0:2:1,1,3", "0 0:3:1,0,2");
        goes(rows("...", "S.F", "#oo"), "2 0:1:1,2,4", "2 2:2:2,1,3");
    }

    /** Only a lift that ends at a BLOCK above keeps the hero in the lowest row; the next frame leads out. */
    private static void aBlockAboveTheLowestRow() {
        frames("If the lift was 0 already: .. from the lowest row that leads out of the level");
        String[] rows = {"..F", "S#.", "o.#"};
        goes(rows, "0 0:1:0,2,4", "2 0:2:1,2,0", "0 1:3:1,3,0");
        goes(rows, "0 0:1:0,2,4", "2 0:2:1,2,0", "1 1:3:0,3,0");
    }

    private static void atASpike() {
        frames("If the hero is out of the level, or at a SPIKE, the run is LOST");
        goes(rows("...", "S^F", "###"), "2 1:1:1,1,0");
        goes(rows("^..", "S.F", "###"), "3 1:1:0,0,1");
        goes(rows("S.F", "^##"), "0 1:1:0,1,0");
        goes(rows("^..", "...", "S.F", "###"), "3 0:1:0,1,1", "0 1:2:0,0,0");
    }

    private static void atASpringWhileRising() {
        frames("Otherwise: at a SPRING the lift becomes 4");
        goes(rows("...", "...", ".o.", "...", "SoF", "###"), "2 0:1:1,4,4", "0 0:2:1,3,3", "0 0:3:1,2,4",
            "0 0:4:1,1,3");
        goes(rows("...", "...", "o..", "...", "S.F", "###"), "3 0:1:0,3,1", "0 0:2:0,2,4", "0 0:3:0,1,3");
    }

    private static void atASpringBelowTheTop() {
        frames("otherwise the lift becomes 0. .. Otherwise: at a SPRING the lift becomes 4");
        goes(rows("SoF", "###"), "2 0:1:1,0,4", "0 0:2:1,0,4", "0 0:3:1,0,4", "2 2:4:2,0,0");
        goes(rows(".#.", "SoF", "###"), "2 0:1:1,1,4", "0 0:2:1,1,4");
    }

    private static void aFlagAtASpike() {
        frames("at a SPIKE, the run is LOST. Otherwise: .. at the flag the run is WON");
        SpringLevels x = Checks.begun("..", "SF", "##");
        x.setCell(0, 1, 1, SpringLevels.SPIKE);
        Checks.same("9: solve with the flag at a SPIKE", x.solve(0), SpringLevels.NONE);
        x.setFlag(0, 1, 0);
        Checks.beginAgain(x);
        Checks.goes(x, "2 1:1:1,1,0");
    }

    private static void aFlagAtASpring() {
        frames("at a SPRING the lift becomes 4; at the flag the run is WON (also at a SPRING)");
        SpringLevels x = Checks.begun("...", "S.F", "###");
        x.setCell(0, 2, 1, SpringLevels.SPRING);
        Checks.beginAgain(x);
        Checks.goes(x, "2 0:1:1,1,0", "2 2:2:2,1,4");
        Checks.same("22: record", x.record(0, 0), 2);
    }

    private static void theFlagWhileRisingAndFalling() {
        frames("at the flag the run is WON");
        goes(rows("F..", "S..", "###"), "3 2:1:0,0,1");
        goes(rows("S..", "F..", "...", "###"), "0 2:1:0,1,0");
        goes(rows("SF", ".#"), "2 2:1:1,0,0");
        goes(rows("S.", "#F"), "2 2:1:1,1,0");
    }

    private static void runningAsLongAsNothingHappens() {
        frames("A run is RUNNING until it is LOST or WON");
        SpringLevels pit = Checks.begun("....", "S..F", "#.##", "#.##", "#.##", "####");
        Checks.goes(pit, "2 0:1:1,2,0", "0 0:2:1,3,0", "0 0:3:1,4,0", "0 0:4:1,4,0");
        Checks.same("20: left of a run that cannot be WON", pit.left(), SpringLevels.NONE);
        Checks.same("15: state", pit.state(), RUNNING);
        Checks.same("14: play", pit.play(0), RUNNING);
    }

    private static SpringLevels behind99Frames(String... rows) {
        SpringLevels x = Checks.begun(rows);
        for (int frame = 1; frame <= 99; frame++) {
            Checks.same("14: frame " + frame, x.play(0), RUNNING);
        }
        Checks.same("15: state behind 99 frames", x.state(), RUNNING);
        return x;
    }

    private static void lostBehind100Frames() {
        frames("it is LOST, too, behind 100 frames, if it is not WON");
        SpringLevels x = behind99Frames("..", "SF", "##");
        Checks.goes(x, "0 1:100:0,1,0");
        Checks.badState("14: play in frame 101", () -> x.play(2));
        Checks.same("22: record", x.record(0, 0), SpringLevels.NONE);
        SpringLevels rising = behind99Frames("..", "SF", "##");
        Checks.goes(rising, "3 1:100:0,0,1");
    }

    private static void wonInFrame100() {
        frames("it is LOST, too, behind 100 frames, if it is not WON");
        SpringLevels x = behind99Frames("..", "SF", "##");
        Checks.same("20: left behind 99 frames", x.left(), 1);
        Checks.same("21: hint behind 99 frames", x.hint(), 2);
        Checks.goes(x, "2 2:100:1,1,0");
        Checks.same("22: record of 100 frames", x.record(0, 0), 100);
        Checks.same("15: state", x.state(), WON);
    }

    private static void lostAtASpikeInFrame100() {
        frames("it is LOST, too, behind 100 frames, if it is not WON");
        SpringLevels x = behind99Frames("...", "S^F", "###");
        Checks.goes(x, "2 1:100:1,1,0");
        Checks.same("15: state", x.state(), LOST);
    }

    private static void lostOutOfTheLevelInFrame100() {
        frames("it is LOST, too, behind 100 frames, if it is not WON");
        SpringLevels x = Checks.begun("...", "S.F", "#.#");
        Checks.playAll(x, "0".repeat(98));
        Checks.goes(x, "2 0:99:1,2,0", "0 1:100:1,3,0");
    }
}
