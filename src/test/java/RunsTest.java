/** Promises 13 to 21: begin, play, state, frames, heroX, heroY, lift, left and hint. */
public final class RunsTest {
    private static final int NONE = SpringLevels.NONE;
    private static final int RUNNING = SpringLevels.RUNNING;
    private static final int LOST = SpringLevels.LOST;
    private static final int WON = SpringLevels.WON;

    private static final String[] FLAT = {"......", "......", "S....F", "######"};

    public static void main(String[] args) {
        promise13Begin();
        promise13BeginRefused();
        promise14Walking();
        promise14Jumping();
        promise14Springs();
        promise14Losing();
        promise14Winning();
        promise14HundredFrames();
        promise14PlayRefused();
        promises15To19WithoutRun();
        promise20Left();
        promise21Hint();
        promise21HintsLeadToTheFlag();
        readingChangesNothing();
        Checks.end("RunsTest");
    }

    private static SpringLevels open(String... rows) {
        return Checks.begun(rows);
    }

    private static String hero(SpringLevels x) {
        return Checks.hero(x);
    }

    private static void goes(SpringLevels x, String... steps) {
        Checks.goes(x, steps);
    }

    private static void promise13Begin() {
        SpringLevels x = new SpringLevels();
        Checks.drawOpen(x, FLAT);
        Checks.drawOpen(x, "...", "F.S", "###");
        Checks.same("13: state before begin", x.state(), NONE);
        Checks.same("13: begin(0, 0)", x.begin(0, 0), 0);
        Checks.same("13: the hero", hero(x), "0:0:0,2,0");
        goes(x, "3 0:1:0,1,1");
        Checks.same("13: begin(3, 1) in place of it", x.begin(3, 1), 2);
        Checks.same("13: the hero", hero(x), "0:0:2,1,0");
        goes(x, "1 0:1:1,1,0", "1 2:2:0,1,0");
        Checks.same("13: the record is of the player of the run", x.record(1, 3), 2);
        Checks.same("13: and of no other", x.record(1, 0), NONE);
        Checks.same("13: begin behind a WON run", x.begin(0, 1), 2);
        Checks.same("13: the hero", hero(x), "0:0:2,1,0");
    }

    private static void promise13BeginRefused() {
        SpringLevels x = new SpringLevels();
        Checks.drawOpen(x, "S.F", "###");
        Checks.draw(x, "S.F", "###");
        x.begin(1, 0);
        x.play(2);
        int[] wrong = {-1, 4, 6, Integer.MIN_VALUE, Integer.MAX_VALUE};
        Checks.unchanged("13: begin refused", x, () -> {
            for (int number : wrong) {
                Checks.noSuch("13: begin(" + number + ", 0)", () -> x.begin(number, 0));
                Checks.noSuch("13: begin(" + number + ", 1) on a closed level", () -> x.begin(number, 1));
                Checks.noSuch("13: begin(0, " + number + ")", () -> x.begin(0, number));
            }
            Checks.noSuch("13: begin(0, 2)", () -> x.begin(0, 2));
            Checks.badState("13: begin(0, 1) on a closed level", () -> x.begin(0, 1));
        });
    }

    private static void promise14Walking() {
        goes(open("....", "....", "..S.", "F.##", "##.."), "0 0:1:2,2,0", "2 0:2:3,2,0", "2 0:3:3,2,0", "1 0:4:2,2,0",
            "1 0:5:1,3,0", "2 0:6:1,3,0", "0 0:7:1,3,0", "1 2:8:0,3,0");
        goes(open("S.", "..", "..", "..", ".F", "##"), "0 0:1:0,1,0", "1 0:2:0,2,0", "2 0:3:1,3,0", "2 2:4:1,4,0");
        goes(open("S#F", "...", "###"), "2 0:1:0,1,0", "2 0:2:1,1,0", "3 0:3:1,1,0");
    }

    private static void promise14Jumping() {
        goes(open(FLAT), "3 0:1:0,1,1", "0 0:2:0,0,0", "0 0:3:0,1,0", "0 0:4:0,2,0", "0 0:5:0,2,0");
        goes(open(FLAT), "4 0:1:0,1,1", "5 0:2:1,0,0", "3 0:3:1,1,0", "5 0:4:2,2,0", "4 0:5:1,1,1", "4 0:6:0,0,0");
        goes(open("...", "#..", "S.F", "###"), "3 0:1:0,2,0", "5 0:2:1,1,1", "0 0:3:1,0,0", "0 0:4:1,1,0");
        goes(open("S.F", "###"), "3 0:1:0,0,0", "5 0:2:1,0,0", "5 2:3:2,0,0");
        goes(open("...", "S.F", "###"), "5 0:1:1,0,1", "0 0:2:1,0,0", "2 2:3:2,1,0");
        goes(open("...", "S^F", "###"), "5 0:1:1,0,1", "2 0:2:2,0,0", "0 2:3:2,1,0");
        goes(open(".#.", "S.F", "##."), "5 0:1:1,1,0", "3 0:2:1,1,0");
        goes(open("...", "S.F", "#.#"), "5 0:1:1,0,1", "0 0:2:1,0,0", "3 0:3:1,1,0", "3 0:4:1,2,0",
            "5 1:5:1,3,0");
    }

    private static void promise14Springs() {
        goes(open("......", "......", "......", "......", "So...F", "######"), "2 0:1:1,4,4", "0 0:2:1,3,3",
            "2 0:3:2,2,2", "2 0:4:3,1,1", "0 0:5:3,0,0", "0 0:6:3,1,0", "2 0:7:4,2,0", "2 0:8:5,3,0", "0 2:9:5,4,0");
        goes(open("....", "....", "....", "So.F", "####"), "2 0:1:1,3,4", "3 0:2:1,2,1", "0 0:3:1,1,0");
        goes(open("..#.", "....", "So.F", "####"), "2 0:1:1,2,4", "2 0:2:2,1,3", "0 0:3:2,1,0", "0 0:4:2,2,0");
        goes(open("....", "....", ".o..", "....", "So.F", "####"), "2 0:1:1,4,4", "0 0:2:1,3,3", "0 0:3:1,2,4",
            "0 0:4:1,1,3", "0 0:5:1,0,2", "0 0:6:1,0,0");
        goes(open("S..F", "o..#", "....", "...."), "0 0:1:0,1,4", "0 0:2:0,0,3", "0 0:3:0,0,0", "0 0:4:0,1,4");
        SpringLevels onSpring = open("..F", "S..", "###");
        onSpring.setCell(0, 0, 1, SpringLevels.SPRING);
        onSpring.solve(0);
        onSpring.open(0);
        onSpring.begin(0, 0);
        Checks.same("19: nothing is looked at where the run begins", hero(onSpring), "0:0:0,1,0");
        goes(onSpring, "0 0:1:0,1,4");
    }

    private static void promise14Losing() {
        goes(open("...", "S.F", "#.#"), "2 0:1:1,2,0", "0 1:2:1,3,0");
        goes(open("...", "S.F", "#.."), "2 0:1:1,2,0", "2 1:2:2,3,0");
        goes(open("...", "S^F", "###"), "2 1:1:1,1,0");
        goes(open(".^.", "S.F", "###"), "5 1:1:1,0,1");
        goes(open(".^...", ".....", ".....", "So..F", "#####"), "2 0:1:1,3,4", "0 0:2:1,2,3", "0 0:3:1,1,2",
            "0 1:4:1,0,1");
        SpringLevels x = open("..F", "S..", "###");
        x.setCell(0, 0, 1, SpringLevels.SPIKE);
        x.solve(0);
        x.open(0);
        x.begin(0, 0);
        Checks.same("14: nothing is looked at where the run begins", x.state(), RUNNING);
        goes(x, "0 1:1:0,1,0");
        x.begin(0, 0);
        goes(x, "5 0:1:1,0,1", "2 2:2:2,0,0");
    }

    private static void promise14Winning() {
        goes(open("..F", "S..", "###"), "3 0:1:0,0,1", "2 0:2:1,0,0", "2 0:3:2,1,0", "3 2:4:2,0,1");
        SpringLevels springFlag = open("S.F", "###");
        springFlag.setCell(0, 2, 0, SpringLevels.SPRING);
        springFlag.solve(0);
        springFlag.open(0);
        springFlag.begin(0, 0);
        goes(springFlag, "2 0:1:1,0,0", "2 2:2:2,0,4");
        SpringLevels flagAtStart = open("...", "S.F", "###");
        flagAtStart.setFlag(0, 0, 1);
        flagAtStart.solve(0);
        flagAtStart.open(0);
        flagAtStart.begin(0, 0);
        Checks.same("14: the flag is not looked at where the run begins", flagAtStart.state(), RUNNING);
        goes(flagAtStart, "1 2:1:0,1,0");
        goes(open("...", "SF.", "##."), "5 0:1:1,0,1", "0 0:2:1,0,0", "0 2:3:1,1,0");
    }

    private static void promise14HundredFrames() {
        SpringLevels x = open("..", "SF", "##");
        for (int frame = 1; frame < 100; frame++) {
            Checks.same("14: frame " + frame, x.play(0), RUNNING);
        }
        goes(x, "0 1:100:0,1,0");
        Checks.badState("14: play behind 100 frames", () -> x.play(2));
        Checks.same("14: no record of a LOST run", x.record(0, 0), NONE);
        x.begin(0, 0);
        Checks.playAll(x, "0".repeat(99));
        goes(x, "2 2:100:1,1,0");
        Checks.same("14: the record of 100 frames", x.record(0, 0), 100);
        Checks.same("14: the half of 100 frames", x.half(0, 0), 100);
        Checks.same("14: the replay of 100 frames", x.replay(0, 0), 100);
    }

    private static void promise14PlayRefused() {
        SpringLevels x = new SpringLevels();
        Checks.drawOpen(x, "S.F", "##.");
        int[] wrong = {-1, 6, Integer.MIN_VALUE, Integer.MAX_VALUE};
        Checks.unchanged("14: play without a run", x, () -> {
            Checks.badArgument("14: play(6) without a run", () -> x.play(6));
            Checks.badState("14: play(0) without a run", () -> x.play(0));
        });
        x.begin(0, 0);
        Checks.unchanged("14: play refused", x, () -> {
            for (int input : wrong) {
                Checks.badArgument("14: play(" + input + ")", () -> x.play(input));
            }
        });
        Checks.playAll(x, "22");
        Checks.same("14: play(0)", x.play(0), LOST);
        Checks.unchanged("14: play behind LOST", x, () -> {
            Checks.badState("14: play(0) behind LOST", () -> x.play(0));
            Checks.badArgument("14: play(6) behind LOST", () -> x.play(6));
        });
        x.setCell(0, 2, 1, SpringLevels.BLOCK);
        Checks.badState("14: play(0) when editing has ended the run", () -> x.play(0));
        x.solve(0);
        x.open(0);
        x.begin(0, 0);
        Checks.playAll(x, "22");
        Checks.unchanged("14: play behind WON", x, () -> {
            Checks.badState("14: play(5) behind WON", () -> x.play(5));
            Checks.badArgument("14: play(-1) behind WON", () -> x.play(-1));
        });
    }

    private static void promises15To19WithoutRun() {
        SpringLevels x = new SpringLevels();
        Checks.drawOpen(x, FLAT);
        Checks.same("15 to 19: before begin", hero(x), "-1:-1:-1,-1,-1");
        x.begin(0, 0);
        Checks.playAll(x, "23");
        Checks.same("15 to 19: a run", hero(x), "0:2:1,1,1");
        x.addLevel(2, 2);
        x.setCell(1, 1, 0, SpringLevels.SPRING);
        Checks.same("15 to 19: after editing of another level", hero(x), "0:2:1,1,1");
        x.setFlag(0, 4, 2);
        Checks.same("15 to 19: after editing", hero(x), "-1:-1:-1,-1,-1");
    }

    private static void promise20Left() {
        SpringLevels x = new SpringLevels();
        Checks.drawOpen(x, FLAT);
        Checks.same("20: left without a run", x.left(), NONE);
        x.begin(0, 0);
        Checks.same("20: left", x.left(), 5);
        x.play(2);
        Checks.same("20: left", x.left(), 4);
        x.play(1);
        Checks.same("20: left", x.left(), 5);
        Checks.playAll(x, "22222");
        Checks.same("20: left of a WON run", x.left(), NONE);
        x.begin(0, 0);
        Checks.playAll(x, "0".repeat(95));
        Checks.same("20: left behind 95 frames", x.left(), 5);
        Checks.same("21: hint behind 95 frames", x.hint(), 2);
        x.play(0);
        Checks.same("20: left behind 96 frames", x.left(), NONE);
        Checks.same("21: hint behind 96 frames", x.hint(), NONE);
        Checks.same("20: the run is RUNNING", x.state(), RUNNING);
        SpringLevels pit = open("....", "S..F", "##.#", "##.#", "....", "..##");
        Checks.playAll(pit, "22");
        Checks.same("20: a run that cannot be WON any more", hero(pit), "0:2:2,2,0");
        Checks.same("20: left", pit.left(), NONE);
        Checks.same("21: hint", pit.hint(), NONE);
        SpringLevels rising = open("F..", "...", "...", "S..", "o..", "...");
        Checks.same("20: left above a SPRING", rising.left(), 5);
        rising.play(0);
        Checks.same("20: left with lift 4", rising.left(), 4);
        rising.play(0);
        Checks.same("20: left with lift 3", rising.left(), 3);
    }

    private static void promise21Hint() {
        SpringLevels x = new SpringLevels();
        Checks.drawOpen(x, FLAT);
        Checks.same("21: hint without a run", x.hint(), NONE);
        x.begin(0, 0);
        Checks.same("21: hint: 2", x.hint(), 2);
        Checks.playAll(x, "22222");
        Checks.same("21: hint of a WON run", x.hint(), NONE);
        Checks.same("21: hint: 0", open("S.", "..", "F.", "##").hint(), 0);
        Checks.same("21: hint: 1", open("...", "F.S", "###").hint(), 1);
        Checks.same("21: hint: 3", open("...", "F..", "S..", "###").hint(), 3);
        Checks.same("21: hint: 4", open("F.", ".S", "##").hint(), 4);
        Checks.same("21: hint: 5", open(".F", "S.", "##").hint(), 5);
        Checks.same("21: hint: 3, where 4 and 5 are as good", open("...", "S^F", "###").hint(), 3);
        SpringLevels spike = open("...", "S^F", "###");
        spike.play(2);
        Checks.same("21: hint of a LOST run", spike.hint(), NONE);
        Checks.same("20: left of a LOST run", spike.left(), NONE);
    }

    private static void promise21HintsLeadToTheFlag() {
        SpringLevels x = open("......", "..#.#F", ".^..#.", "S.o.#.", "##.###");
        int left = x.solve(0);
        while (left > 0) {
            Checks.same("20: left", x.left(), left);
            left--;
            Checks.same("14: play(hint())", x.play(x.hint()), left == 0 ? WON : RUNNING);
        }
        Checks.same("14: the run is WON in the way", x.frames(), x.way(0));
    }

    private static void readingChangesNothing() {
        SpringLevels x = open("...", "S.F", "###");
        x.play(3);
        Checks.unchanged("15 to 21", x, () -> Checks.runPicture(x));
        Checks.same("15 to 21: the hero", hero(x), "0:1:0,0,1");
    }
}
