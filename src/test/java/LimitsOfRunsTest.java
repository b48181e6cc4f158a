/** The boundary cases of the promises 13 to 21: a test for each sentence that names one. */
public final class LimitsOfRunsTest {
    private static final int NONE = SpringLevels.NONE;
    private static final int RUNNING = SpringLevels.RUNNING;
    private static final int LOST = SpringLevels.LOST;
    private static final int WON = SpringLevels.WON;
    private static final int SPIKE = SpringLevels.SPIKE;

    /** Way 3; a jump at first leads to the SPIKE. */
    private static final String[] FIELD = {"^...", "S..F", "####"};

    public static void main(String[] args) {
        promise13Players();
        promise13Levels();
        promise13NotOpen();
        promise13NoSuchPlayerOnAClosedLevel();
        promise13ReturnsTheX();
        promise13InPlaceOfARunThatIsRunning();
        promise13InPlaceOfARunThatIsLost();
        promise13InPlaceOfARunThatIsWon();
        promise13RefusedKeepsTheRun();
        promise14LeastAndLargestInput();
        promise14InputOutOfRangeWithoutARun();
        promise14NoRun();
        promise14RunThatIsLost();
        promise14RunThatIsWon();
        promise14RunThatEditingEnded();
        promise14ReturnsTheState();
        promise15NoneWithoutARun();
        promise15EachState();
        promise16NoneWithoutARun();
        promise16From0To100();
        promise16OfARunThatIsOver();
        promise17NoneWithoutARun();
        promise17LeftmostAndRightmost();
        promise17OutOfTheLevel();
        promise18NoneWithoutARun();
        promise18TopAndLowestRow();
        promise18OutOfTheLevel();
        promise19NoneWithoutARun();
        promise19From0To4();
        promise19OfARunThatIsOver();
        promise20NoneWithoutARun();
        promise20NoneOfALostRun();
        promise20NoneOfAWonRun();
        promise20CannotBeWonAnyMore();
        promise20In100FramesInAll();
        promise20InTheLastFrame();
        promise20FromEachLift();
        promise21LowestInput();
        promise21EachInput();
        promise21LowestOfSeveralWays();
        promise21NoneIfLeftIsNone();
        promise21InTheLastFrame();
        Checks.end("LimitsOfRunsTest");
    }

    /** Two levels that are open, one that is solved but not open, and one without a way. */
    private static SpringLevels four() {
        SpringLevels x = new SpringLevels();
        Checks.drawOpen(x, FIELD);
        Checks.drawOpen(x, "...", "F.S", "###");
        Checks.draw(x, "S.F", "###");
        x.solve(2);
        Checks.draw(x, "S#F", "###");
        x.solve(3);
        return x;
    }

    private static void heroIs(SpringLevels x, String due) {
        Checks.same("15 to 19: the hero", Checks.hero(x), due);
    }

    // ---- promise 13

    private static void promise13Players() {
        Checks.about("Promise 13", "Throws IndexOutOfBoundsException if there is no such player or level");
        SpringLevels x = four();
        for (int player : new int[] {-1, 4, 5, Integer.MIN_VALUE, Integer.MAX_VALUE}) {
            Checks.noSuch("13: begin(" + player + ", 0)", () -> x.begin(player, 0));
        }
        Checks.same("15: state", x.state(), NONE);
        for (int player = 0; player < 4; player++) {
            Checks.same("13: begin(" + player + ", 0)", x.begin(player, 0), 0);
            Checks.same("15: state", x.state(), RUNNING);
        }
    }

    private static void promise13Levels() {
        Checks.about("Promise 13", "Throws IndexOutOfBoundsException if there is no such player or level");
        SpringLevels x = four();
        for (int level : new int[] {-1, 4, 5, 6, Integer.MIN_VALUE, Integer.MAX_VALUE}) {
            Checks.noSuch("13: begin(0, " + level + ")", () -> x.begin(0, level));
        }
        Checks.noSuch("13: begin(0, 0) without a level", () -> new SpringLevels().begin(0, 0));
        Checks.same("15: state", x.state(), NONE);
        SpringLevels six = new SpringLevels();
        for (int level = 0; level < 6; level++) {
            Checks.drawOpen(six, "F.S", "###");
        }
        Checks.same("13: begin(0, 5)", six.begin(0, 5), 2);
        Checks.noSuch("13: begin(0, 6)", () -> six.begin(0, 6));
    }

    private static void promise13NotOpen() {
        Checks.about("Promise 13", "Throws IllegalStateException if the level is not open");
        SpringLevels x = four();
        Checks.badState("13: begin on a level that is solved", () -> x.begin(0, 2));
        Checks.badState("13: begin on a level without a way", () -> x.begin(0, 3));
        x.setFlag(0, 3, 1);
        Checks.badState("13: begin on a level that was open", () -> x.begin(0, 0));
        Checks.same("15: state", x.state(), NONE);
        x.open(2);
        Checks.same("13: begin on the level that is open now", x.begin(0, 2), 0);
    }

    private static void promise13NoSuchPlayerOnAClosedLevel() {
        Checks.about("Exceptions", "If several exceptions apply, the first one of the throws clause is thrown");
        SpringLevels x = four();
        Checks.noSuch("13: begin(-1, 2)", () -> x.begin(-1, 2));
        Checks.noSuch("13: begin(4, 2)", () -> x.begin(4, 2));
        Checks.noSuch("13: begin(4, 3)", () -> x.begin(4, 3));
        Checks.noSuch("13: begin(4, 4)", () -> x.begin(4, 4));
    }

    private static void promise13ReturnsTheX() {
        Checks.about("Promise 13", "Returns the x of the hero");
        SpringLevels x = four();
        Checks.same("13: begin at the leftmost column", x.begin(0, 0), 0);
        Checks.same("13: begin at the rightmost column", x.begin(0, 1), 2);
        SpringLevels wide = new SpringLevels();
        Checks.drawOpen(wide, "F..........S", "############");
        Checks.same("13: begin at the rightmost column of 12", wide.begin(3, 0), 11);
    }

    private static void promise13InPlaceOfARunThatIsRunning() {
        Checks.about("Promise 13", "Begins a run, in place of the one that there may be");
        SpringLevels x = four();
        x.begin(0, 0);
        Checks.goes(x, "2 0:1:1,1,0", "3 0:2:1,0,1");
        x.begin(2, 1);
        heroIs(x, "0:0:2,1,0");
        x.begin(1, 0);
        heroIs(x, "0:0:0,1,0");
        Checks.playAll(x, "222");
        Checks.same("22: record of the new player", x.record(0, 1), 3);
        Checks.same("22: record of the player before", x.record(0, 0), NONE);
        Checks.same("22: record of the run on level 1", x.record(1, 2), NONE);
    }

    private static void promise13InPlaceOfARunThatIsLost() {
        Checks.about("Promise 13", "Begins a run, in place of the one that there may be");
        SpringLevels x = four();
        x.begin(0, 0);
        Checks.goes(x, "3 1:1:0,0,1");
        Checks.same("13: begin", x.begin(0, 0), 0);
        heroIs(x, "0:0:0,1,0");
        Checks.playAll(x, "0".repeat(100));
        Checks.same("15: state behind 100 frames", x.state(), LOST);
        x.begin(0, 0);
        heroIs(x, "0:0:0,1,0");
        Checks.goes(x, "2 0:1:1,1,0");
    }

    private static void promise13InPlaceOfARunThatIsWon() {
        Checks.about("Promise 13", "Begins a run, in place of the one that there may be");
        SpringLevels x = four();
        Checks.win(x, 0, 0, "0222");
        x.begin(0, 0);
        heroIs(x, "0:0:0,1,0");
        Checks.playAll(x, "222");
        Checks.same("22: record", x.record(0, 0), 3);
        Checks.same("23: half of the run that was begun anew", x.half(0, 0), 2);
    }

    private static void promise13RefusedKeepsTheRun() {
        Checks.about("Promise 13", "Begins a run, in place of the one that there may be");
        SpringLevels x = four();
        x.begin(2, 0);
        Checks.playAll(x, "02");
        Checks.noSuch("13: begin(4, 0)", () -> x.begin(4, 0));
        Checks.noSuch("13: begin(0, 4)", () -> x.begin(0, 4));
        Checks.badState("13: begin(0, 2)", () -> x.begin(0, 2));
        heroIs(x, "0:2:1,1,0");
        Checks.playAll(x, "22");
        Checks.same("22: record", x.record(0, 2), 4);
    }

    // ---- promise 14

    private static void promise14LeastAndLargestInput() {
        Checks.about("Promise 14", "Throws IllegalArgumentException if input is out of range");
        SpringLevels x = four();
        x.begin(0, 0);
        for (int input : new int[] {-1, 6, 7, Integer.MIN_VALUE, Integer.MAX_VALUE}) {
            Checks.badArgument("14: play(" + input + ")", () -> x.play(input));
        }
        heroIs(x, "0:0:0,1,0");
        Checks.goes(x, "0 0:1:0,1,0", "5 0:2:1,0,1");
    }

    private static void promise14InputOutOfRangeWithoutARun() {
        Checks.about("Exceptions", "If several exceptions apply, the first one of the throws clause is thrown");
        SpringLevels x = four();
        Checks.badArgument("14: play(-1) without a run", () -> x.play(-1));
        Checks.badArgument("14: play(6) without a run", () -> x.play(6));
        x.begin(0, 0);
        x.play(3);
        Checks.badArgument("14: play(-1) behind LOST", () -> x.play(-1));
        Checks.badArgument("14: play(6) behind LOST", () -> x.play(6));
        Checks.win(x, 0, 0, "222");
        Checks.badArgument("14: play(-1) behind WON", () -> x.play(-1));
        Checks.badArgument("14: play(6) behind WON", () -> x.play(6));
    }

    private static final String NOT_RUNNING = "Throws IllegalStateException if there is no run that is RUNNING";

    private static void noFrameIsPlayed(SpringLevels x) {
        Checks.unchanged("14: play refused", x, () -> {
            for (int input = 0; input < 6; input++) {
                int each = input;
                Checks.badState("14: play(" + input + ")", () -> x.play(each));
            }
        });
    }

    private static void promise14NoRun() {
        Checks.about("Promise 14", NOT_RUNNING);
        noFrameIsPlayed(new SpringLevels());
        SpringLevels x = new SpringLevels();
        Checks.drawOpen(x, FIELD);
        noFrameIsPlayed(x);
    }

    private static void promise14RunThatIsLost() {
        Checks.about("Promise 14", NOT_RUNNING);
        SpringLevels spike = Checks.begun(FIELD);
        spike.play(3);
        noFrameIsPlayed(spike);
        SpringLevels hole = Checks.begun("S..", ".F#");
        Checks.playAll(hole, "00");
        noFrameIsPlayed(hole);
        SpringLevels late = Checks.begun("S.F", "###");
        Checks.playAll(late, "0".repeat(100));
        noFrameIsPlayed(late);
    }

    private static void promise14RunThatIsWon() {
        Checks.about("Promise 14", NOT_RUNNING);
        SpringLevels x = Checks.begun(FIELD);
        Checks.playAll(x, "222");
        noFrameIsPlayed(x);
        Checks.same("22: record", x.record(0, 0), 3);
    }

    private static void promise14RunThatEditingEnded() {
        Checks.about("Promise 14", NOT_RUNNING);
        SpringLevels x = Checks.begun(FIELD);
        x.setCell(0, 1, 0, SPIKE);
        noFrameIsPlayed(x);
        x.solve(0);
        x.open(0);
        noFrameIsPlayed(x);
    }

    private static void promise14ReturnsTheState() {
        Checks.about("Promise 14", "Returns RUNNING, LOST or WON");
        SpringLevels x = Checks.begun(FIELD);
        Checks.same("14: play(2)", x.play(2), RUNNING);
        Checks.same("14: play(2)", x.play(2), RUNNING);
        Checks.same("14: play(2) to the flag", x.play(2), WON);
        x.begin(0, 0);
        Checks.same("14: play(3) to the SPIKE", x.play(3), LOST);
    }

    // ---- promise 15

    private static void noRun(String what, java.util.function.ToIntFunction<SpringLevels> call) {
        Checks.same(what + " of a new object", call.applyAsInt(new SpringLevels()), NONE);
        SpringLevels x = new SpringLevels();
        Checks.drawOpen(x, FIELD);
        Checks.same(what + " before begin", call.applyAsInt(x), NONE);
        Checks.noSuch("13: begin refused", () -> x.begin(4, 0));
        Checks.same(what + " behind a refused begin", call.applyAsInt(x), NONE);
        for (String inputs : new String[] {"", "22", "222", "3"}) {
            Checks.beginAgain(x);
            Checks.playAll(x, inputs);
            x.setFlag(0, 3, 1);
            Checks.same(what + " behind editing", call.applyAsInt(x), NONE);
        }
    }

    private static void promise15NoneWithoutARun() {
        Checks.about("Promise 15", "NONE if there is no run");
        noRun("15: state", SpringLevels::state);
    }

    private static void promise15EachState() {
        Checks.about("Promise 15", "Returns RUNNING, LOST or WON");
        SpringLevels x = Checks.begun(FIELD);
        Checks.same("15: state behind begin", x.state(), RUNNING);
        Checks.playAll(x, "22");
        Checks.same("15: state behind two frames", x.state(), RUNNING);
        x.play(2);
        Checks.same("15: state at the flag", x.state(), WON);
        x.begin(0, 0);
        Checks.same("15: state behind begin", x.state(), RUNNING);
        x.play(3);
        Checks.same("15: state at the SPIKE", x.state(), LOST);
    }

    // ---- promise 16

    private static void promise16NoneWithoutARun() {
        Checks.about("Promise 16", "NONE if there is no run");
        noRun("16: frames", SpringLevels::frames);
    }

    private static void promise16From0To100() {
        Checks.about("Promise 16", "Returns how many frames the run has had");
        SpringLevels x = Checks.begun(FIELD);
        for (int frame = 0; frame < 100; frame++) {
            Checks.same("16: frames", x.frames(), frame);
            x.play(0);
        }
        Checks.same("16: frames", x.frames(), 100);
        Checks.badState("14: play in frame 101", () -> x.play(0));
        Checks.same("16: frames behind a refused play", x.frames(), 100);
    }

    private static void promise16OfARunThatIsOver() {
        Checks.about("Promise 16", "Returns how many frames the run has had");
        SpringLevels x = Checks.begun(FIELD);
        x.play(3);
        Checks.same("16: frames of a LOST run", x.frames(), 1);
        Checks.win(x, 0, 0, "0222");
        Checks.same("16: frames of a WON run", x.frames(), 4);
        Checks.badArgument("14: play(6)", () -> x.play(6));
        Checks.same("16: frames behind a refused play", x.frames(), 4);
        x.begin(0, 0);
        Checks.same("16: frames behind begin", x.frames(), 0);
    }

    // ---- promises 17 and 18

    private static void promise17NoneWithoutARun() {
        Checks.about("Promise 17", "NONE if there is no run");
        noRun("17: heroX", SpringLevels::heroX);
    }

    private static void promise17LeftmostAndRightmost() {
        Checks.about("Promise 17", "Returns the column");
        SpringLevels x = Checks.begun("....F.......", "....S.......", "############");
        Checks.playAll(x, "22222222");
        Checks.same("17: heroX", x.heroX(), 11);
        x.begin(0, 0);
        Checks.playAll(x, "11111");
        Checks.same("17: heroX", x.heroX(), 0);
    }

    private static void promise17OutOfTheLevel() {
        Checks.about("Promise 17", "Returns the column");
        SpringLevels x = Checks.begun("...", "S.F", "#.#");
        Checks.goes(x, "2 0:1:1,2,0", "0 1:2:1,3,0");
        Checks.same("17: heroX", x.heroX(), 1);
    }

    private static void promise18NoneWithoutARun() {
        Checks.about("Promise 18", "NONE if there is no run");
        noRun("18: heroY", SpringLevels::heroY);
    }

    private static void promise18TopAndLowestRow() {
        Checks.about("Promise 18", "Returns the row of the hero");
        SpringLevels x = Checks.begun("S..", "...", "...", "...", "...", "...", "#.F", "..#");
        for (int row = 0; row < 6; row++) {
            Checks.same("18: heroY", x.heroY(), row);
            x.play(row == 0 ? 2 : 0);
        }
        x.play(0);
        Checks.same("18: heroY in the lowest row", x.heroY(), 7);
        Checks.same("15: state in the lowest row", x.state(), RUNNING);
    }

    private static void promise18OutOfTheLevel() {
        Checks.about("Promise 18", "the height of the level if the hero is out of it");
        SpringLevels least = Checks.begun("SF", ".#");
        Checks.playAll(least, "00");
        Checks.same("18: heroY of height 2", least.heroY(), 2);
        SpringLevels largest = Checks.begun("...", "...", "...", "...", "...", "...", "S.F", ".##");
        Checks.playAll(largest, "00");
        Checks.same("18: heroY of height 8", largest.heroY(), 8);
        SpringLevels spike = Checks.begun(FIELD);
        spike.play(3);
        Checks.same("18: heroY of a LOST run that is not out", spike.heroY(), 0);
    }

    // ---- promise 19

    private static void promise19NoneWithoutARun() {
        Checks.about("Promise 19", "NONE if there is no run");
        noRun("19: lift", SpringLevels::lift);
    }

    private static void promise19From0To4() {
        Checks.about("Promise 19", "Returns 0 to 4");
        SpringLevels x = Checks.begun("...", "...", "...", "...", "SoF", "###");
        Checks.same("19: lift at first", x.lift(), 0);
        x.play(2);
        for (int lift = 4; lift >= 0; lift--) {
            Checks.same("19: lift", x.lift(), lift);
            x.play(0);
        }
        Checks.same("19: lift in the fall", x.lift(), 0);
    }

    private static void promise19OfARunThatIsOver() {
        Checks.about("Promise 19", "Returns the lift of the hero");
        SpringLevels x = Checks.begun("F..", "S..", "###");
        x.play(3);
        Checks.same("19: lift at the flag", x.state() * 10 + x.lift(), 10 * WON + 1);
        SpringLevels spike = Checks.begun(FIELD);
        spike.play(3);
        Checks.same("19: lift at a SPIKE", spike.state() * 10 + spike.lift(), 10 * LOST + 1);
        SpringLevels out = Checks.begun("SF", ".#");
        Checks.playAll(out, "00");
        Checks.same("19: lift out of the level", out.state() * 10 + out.lift(), 10 * LOST);
    }

    // ---- promise 20

    private static void promise20NoneWithoutARun() {
        Checks.about("Promise 20", "NONE if there is no run that is RUNNING");
        noRun("20: left", SpringLevels::left);
    }

    private static void promise20NoneOfALostRun() {
        Checks.about("Promise 20", "NONE if there is no run that is RUNNING");
        SpringLevels x = Checks.begun(FIELD);
        x.play(3);
        Checks.same("20: left at a SPIKE", x.left(), NONE);
        SpringLevels out = Checks.begun("SF", ".#");
        Checks.playAll(out, "00");
        Checks.same("20: left out of the level", out.left(), NONE);
        x.begin(0, 0);
        Checks.playAll(x, "0".repeat(100));
        Checks.same("20: left behind 100 frames", x.left(), NONE);
    }

    private static void promise20NoneOfAWonRun() {
        Checks.about("Promise 20", "NONE if there is no run that is RUNNING");
        SpringLevels x = Checks.begun(FIELD);
        Checks.playAll(x, "22");
        Checks.same("20: left before the last frame", x.left(), 1);
        x.play(2);
        Checks.same("20: left of a WON run", x.left(), NONE);
    }

    private static void promise20CannotBeWonAnyMore() {
        Checks.about("Promise 20", "or it cannot be WON any more");
        SpringLevels pit = Checks.begun("....", "S..F", "#.##", "#.##", "#.##", "####");
        Checks.same("20: left before the pit", pit.left(), 3);
        pit.play(2);
        Checks.same("20: left at the rim", pit.left(), NONE);
        Checks.playAll(pit, "00");
        Checks.same("20: left in the pit", pit.left(), NONE);
        Checks.same("15: state in the pit", pit.state(), RUNNING);
        SpringLevels fall = Checks.begun("SF", ".#");
        fall.play(0);
        Checks.same("20: left in the lowest row", fall.left(), NONE);
        Checks.same("15: state in the lowest row", fall.state(), RUNNING);
    }

    private static void promise20In100FramesInAll() {
        Checks.about("Promise 20", "with which the run can be WON, in 100 frames in all");
        SpringLevels x = Checks.begun(FIELD);
        Checks.playAll(x, "0".repeat(96));
        Checks.same("20: left behind 96 frames", x.left(), 3);
        x.play(0);
        Checks.same("20: left behind 97 frames", x.left(), 3);
        x.play(0);
        Checks.same("20: left behind 98 frames", x.left(), NONE);
        Checks.same("15: state behind 98 frames", x.state(), RUNNING);
        x.play(2);
        Checks.same("20: left behind 99 frames", x.left(), NONE);
        Checks.same("14: play in frame 100", x.play(2), LOST);
    }

    private static void promise20InTheLastFrame() {
        Checks.about("Promise 20", "with which the run can be WON, in 100 frames in all");
        SpringLevels x = Checks.begun(FIELD);
        Checks.playAll(x, "22" + "0".repeat(97));
        Checks.same("20: left behind 99 frames", x.left(), 1);
        Checks.same("14: play in frame 100", x.play(2), WON);
    }

    private static void promise20FromEachLift() {
        Checks.about("Promise 20", "the least number of further frames");
        SpringLevels x = Checks.begun("F..", "...", "...", "...", "So.", "###");
        int[] left = {5, 4, 3, 2, 1};
        String inputs = "21000";
        for (int frame = 0; frame < left.length; frame++) {
            Checks.same("20: left behind " + frame + " frames", x.left(), left[frame]);
            x.play(inputs.charAt(frame) - '0');
        }
        Checks.same("15: state", x.state() * 100 + x.frames(), 100 * WON + 5);
    }

    // ---- promise 21

    private static void promise21LowestInput() {
        Checks.about("Promise 21", "Returns the lowest such input");
        Checks.same("21: hint: 0 to 5", Checks.begun("S.", "F.", "##").hint(), 0);
        Checks.same("21: hint: 3 and 4", Checks.begun("F.", "S.", "##").hint(), 3);
        Checks.same("21: hint: 0 and 1, 3 and 4", Checks.begun("S..", "F..", "###").hint(), 0);
        Checks.same("21: hint: 1 and 4", Checks.begun("FS", "##").hint(), 1);
        Checks.same("21: hint: 2 and 5", Checks.begun("SF", "##").hint(), 2);
    }

    private static void promise21EachInput() {
        Checks.about("Promise 21", "Returns an input with which the run is WON in the least number of frames");
        Checks.same("21: hint: 0", Checks.begun("S.", "..", "F.", "##").hint(), 0);
        Checks.same("21: hint: 1", Checks.begun("...", "F.S", "###").hint(), 1);
        Checks.same("21: hint: 2", Checks.begun("...", "S.F", "###").hint(), 2);
        Checks.same("21: hint: 3", Checks.begun(".F.", ".S.", "###").hint(), 3);
        Checks.same("21: hint: 4", Checks.begun("F..", ".S.", "###").hint(), 4);
        Checks.same("21: hint: 5", Checks.begun("..F", ".S.", "###").hint(), 5);
    }

    /** The first frames of the least ways may differ: up and aside, or aside and up. */
    private static void promise21LowestOfSeveralWays() {
        Checks.about("Promise 21", "Returns the lowest such input");
        Checks.same("21: hint: 3, 4 and 5 over a SPIKE", Checks.begun("...", "S^F", "###").hint(), 3);
        SpringLevels x = Checks.begun(".....", ".....", "S...F", "#####");
        x.setFlag(0, 1, 0);
        Checks.beginAgain(x);
        Checks.same("20: left", x.left(), 2);
        Checks.same("21: hint: 3 then 2, or 5 then 0", x.hint(), 3);
        x.setFlag(0, 2, 0);
        Checks.beginAgain(x);
        Checks.same("20: left", x.left(), 2);
        Checks.same("21: hint: 5 then 2 alone", x.hint(), 5);
    }

    private static void promise21NoneIfLeftIsNone() {
        Checks.about("Promise 21", "NONE if left() is NONE");
        noRun("21: hint", SpringLevels::hint);
        SpringLevels lost = Checks.begun(FIELD);
        lost.play(3);
        Checks.same("21: hint of a LOST run", lost.hint(), NONE);
        SpringLevels won = Checks.begun(FIELD);
        Checks.playAll(won, "222");
        Checks.same("21: hint of a WON run", won.hint(), NONE);
        SpringLevels fall = Checks.begun("SF", ".#");
        fall.play(0);
        Checks.same("21: hint of a run that cannot be WON", fall.hint(), NONE);
    }

    private static void promise21InTheLastFrame() {
        Checks.about("Promise 21", "NONE if left() is NONE");
        SpringLevels x = Checks.begun(FIELD);
        Checks.playAll(x, "0".repeat(97));
        Checks.same("21: hint behind 97 frames", x.hint(), 2);
        x.play(0);
        Checks.same("21: hint behind 98 frames", x.hint(), NONE);
        SpringLevels near = Checks.begun(FIELD);
        Checks.playAll(near, "22" + "0".repeat(97));
        Checks.same("21: hint behind 99 frames", near.hint(), 2);
    }
}
