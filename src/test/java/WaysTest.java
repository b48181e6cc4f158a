/** Promises 9 to 12: solve, way, open and isOpen. */
public final class WaysTest {
    private static final int NONE = SpringLevels.NONE;

    public static void main(String[] args) {
        promise9Solve();
        promise9LongWay();
        promise9SolveIsNoEditing();
        promise10Way();
        promise11Open();
        promise12IsOpen();
        refused();
        Checks.end("WaysTest");
    }

    private static void wayIs(int due, String... rows) {
        SpringLevels x = new SpringLevels();
        Checks.draw(x, rows);
        Checks.same("9: solve of " + String.join("/", rows), x.solve(0), due);
        Checks.same("10: way of " + String.join("/", rows), x.way(0), due);
    }

    private static void promise9Solve() {
        wayIs(1, "SF", "##");
        wayIs(1, "F.", "S.", "##");
        wayIs(2, "F.", "..", "S.", "##");
        wayIs(NONE, "F.", "..", "..", "S.", "##");
        wayIs(4, "F.", "..", "..", "So", "##");
        wayIs(11, "S..........F", "############");
        wayIs(NONE, "S#F", "###");
        wayIs(3, "...", "S#F", "###");
        wayIs(NONE, "^^^", "S^F", "###");
        wayIs(3, "...", "S^F", "###");
        wayIs(NONE, "S..F", "#..#");
        wayIs(3, "....", "S..F", "#..#");
        wayIs(4, ".....", "S...F", "#...#");
        wayIs(NONE, "......", "S....F", "#....#");
        wayIs(5, "......", "......", "S....F", "#....#");
        wayIs(7, "S.", "..", "..", "..", "..", "..", "..", ".F");
        wayIs(3, "S..", ".#.", "...", ".F.");
    }

    /** Start and flag are EMPTY here; LimitsOfWaysTest has the longest way that is known. */
    private static void promise9LongWay() {
        SpringLevels x = new SpringLevels();
        Checks.draw(x, ".^.^.^o.^.#.", ".#.#.o.#.^^.", ".o.oo#^.ooFo", ".^^.^.#.#.#.", ".#.^^.#o#.#.", "..^o.^.#S.^.",
            ".^.#oo..^o.o", "o.oo.o..oo^^");
        Checks.same("9: solve of a long way", x.solve(0), 92);
        x.open(0);
        x.begin(0, 0);
        for (int frame = 1; frame <= 92; frame++) {
            Checks.same("20: left on a long way", x.left(), 93 - frame);
            Checks.same("14: play(hint())", x.play(x.hint()), frame == 92 ? SpringLevels.WON : SpringLevels.RUNNING);
        }
        Checks.same("22: record of a long way", x.record(0, 0), 92);
        Checks.same("26: replay of a long way", x.replay(0, 0), 92);
    }

    private static void promise9SolveIsNoEditing() {
        SpringLevels x = new SpringLevels();
        Checks.drawOpen(x, "...", "S.F", "###");
        x.begin(2, 0);
        Checks.playAll(x, "22");
        x.begin(1, 0);
        x.play(0);
        Checks.unchanged("9: solve", x, () -> Checks.same("9: solve again", x.solve(0), 2));
    }

    private static void promise10Way() {
        SpringLevels x = new SpringLevels();
        Checks.draw(x, "S.F", "###");
        Checks.draw(x, "S#F", "###");
        Checks.same("10: way before solve", x.way(0), NONE);
        x.solve(0);
        x.solve(1);
        Checks.same("10: way", x.way(0), 2);
        Checks.same("10: way that there is none", x.way(1), NONE);
        x.setCell(1, 1, 0, SpringLevels.EMPTY);
        Checks.same("10: way after editing", x.way(1), NONE);
        Checks.same("10: way of the other", x.way(0), 2);
        x.setCell(0, 1, 0, SpringLevels.SPIKE);
        Checks.same("10: way after editing", x.way(0), NONE);
        Checks.same("10: solve after editing", x.solve(0), NONE);
        Checks.same("10: solve after editing", x.solve(1), 2);
    }

    private static void promise11Open() {
        SpringLevels x = new SpringLevels();
        Checks.draw(x, "S.F", "###");
        Checks.draw(x, "S#F", "###");
        Checks.badState("11: open before solve", () -> x.open(0) ? 1 : 0);
        Checks.same("11: isOpen after a refused open", x.isOpen(0), false);
        x.solve(0);
        x.solve(1);
        Checks.same("11: open", x.open(0), false);
        Checks.same("11: open again", x.open(0), true);
        Checks.badState("11: open without a way", () -> x.open(1) ? 1 : 0);
        x.setFlag(0, 1, 0);
        Checks.badState("11: open after editing", () -> x.open(0) ? 1 : 0);
        x.solve(0);
        Checks.same("11: open after editing and solve", x.open(0), false);
        x.begin(0, 0);
        x.play(2);
        Checks.unchanged("11: open of what is open", x, () -> x.open(0));
    }

    private static void promise12IsOpen() {
        SpringLevels x = new SpringLevels();
        Checks.draw(x, "S.F", "###");
        Checks.draw(x, "S.F", "###");
        Checks.same("12: isOpen of a new level", x.isOpen(0), false);
        x.solve(0);
        Checks.same("12: isOpen after solve", x.isOpen(0), false);
        x.open(0);
        Checks.same("12: isOpen after open", x.isOpen(0), true);
        Checks.same("12: isOpen of the other", x.isOpen(1), false);
        x.setStart(0, 1, 0);
        Checks.same("12: isOpen after editing", x.isOpen(0), false);
        x.solve(0);
        Checks.same("12: isOpen after editing and solve", x.isOpen(0), false);
    }

    private static void refused() {
        SpringLevels x = new SpringLevels();
        Checks.drawOpen(x, "S.F", "###");
        x.begin(0, 0);
        Checks.unchanged("9 to 12: refused", x, () -> {
            for (int level : new int[] {-1, 1, 5, 6, Integer.MIN_VALUE, Integer.MAX_VALUE}) {
                Checks.noSuch("9: solve(" + level + ")", () -> x.solve(level));
                Checks.noSuch("10: way(" + level + ")", () -> x.way(level));
                Checks.noSuch("11: open(" + level + ")", () -> x.open(level) ? 1 : 0);
                Checks.noSuch("12: isOpen(" + level + ")", () -> x.isOpen(level) ? 1 : 0);
            }
        });
    }
}
