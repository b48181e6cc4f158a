/** Objects in each state that a run may be in, and with as many levels as there may be; each call makes a new one. */
enum Scene {
    NO_RUN, RUNNING, LOST, WON, SIX_LEVELS;

    /** Level 0 is open, with records of the players 0 and 1; 1 has no way; 2 is solved, but not open; 3 was edited. */
    SpringLevels made() {
        SpringLevels x = new SpringLevels();
        Checks.drawOpen(x, "^..", "S.F", "###");
        Checks.draw(x, "S#F", "###");
        Checks.draw(x, "S.F", "###");
        Checks.drawOpen(x, "SF", "##");
        Checks.win(x, 0, 0, "022");
        Checks.win(x, 0, 1, "22");
        x.solve(1);
        x.solve(2);
        x.begin(2, 3);
        x.setStart(3, 0, 0);
        switch (this) {
            case NO_RUN -> { }
            case RUNNING -> beginAndPlay(x, "02");
            case LOST -> beginAndPlay(x, "03");
            case WON -> beginAndPlay(x, "0022");
            case SIX_LEVELS -> {
                beginAndPlay(x, "02");
                x.addLevel(2, 2);
                x.addLevel(2, 2);
            }
        }
        return x;
    }

    private static void beginAndPlay(SpringLevels x, String inputs) {
        x.begin(2, 0);
        Checks.playAll(x, inputs);
    }

    void sameAftermath(String what, SpringLevels x, SpringLevels twin) {
        Checks.same("all answers behind " + what + " in the scene " + this, aftermath(x), aftermath(twin));
    }

    /** All that an object answers, then what it answers to further frames, runs and edits. */
    private static String aftermath(SpringLevels x) {
        StringBuilder all = new StringBuilder(Checks.picture(x));
        for (int frame = 0; frame < 2; frame++) {
            all.append(" play ").append(Checks.outcome(() -> x.play(2))).append(' ').append(Checks.runPicture(x));
        }
        all.append(" begin ").append(x.begin(3, 0));
        for (int frame = 0; frame < 4; frame++) {
            all.append(" ghost ").append(x.ghost()).append(" play ").append(x.play(0)).append(Checks.hero(x));
        }
        for (int player = 0; player < 4; player++) {
            all.append(" record ").append(x.record(0, player)).append('/').append(x.half(0, player));
            all.append('/').append(x.replay(0, player));
        }
        for (int level = 0; level < x.levels(); level++) {
            int each = level;
            all.append(" open ").append(Checks.outcome(() -> x.open(each) ? 1 : 0));
            all.append(" solve ").append(x.solve(level)).append(" blocks ").append(blocks(x, level));
        }
        return all.append(" addLevel ").append(Checks.outcome(() -> x.addLevel(2, 2))).toString();
    }

    /** Where a BLOCK can be set: not at the start or the flag. */
    private static String blocks(SpringLevels x, int level) {
        StringBuilder all = new StringBuilder();
        for (int y = 0; y < 3; y++) {
            for (int at = 0; at < 3; at++) {
                int column = at;
                int row = y;
                all.append(Checks.outcome(() -> x.setCell(level, column, row, SpringLevels.BLOCK))).append(' ');
            }
        }
        return all.toString();
    }
}
