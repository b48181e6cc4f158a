/** What the tests share: counting wrong answers, asking for exceptions, and a picture of all that an object answers. */
final class Checks {
    private static int wrong;
    private static String sentence = "";

    private Checks() {
    }

    interface Call {
        long answer();
    }

    /** The place in the document and the sentence there that the next answers are about: printed with a wrong one. */
    static void about(String place, String words) {
        sentence = place + " (\"" + words + "\"): ";
    }

    static void same(String what, long got, long due) {
        if (got != due) {
            wrong(what + " answered " + got + ", due is " + due);
        }
    }

    private static void wrong(String what) {
        wrong++;
        System.out.println(sentence + what);
    }

    static void same(String what, boolean got, boolean due) {
        same(what, got ? 1 : 0, due ? 1 : 0);
    }

    static void same(String what, String got, String due) {
        if (!got.equals(due)) {
            wrong(what + " answered " + got + ", due is " + due);
        }
    }

    /** The call must throw just this exception, not one of a class below it. */
    static void refused(String what, Class<? extends RuntimeException> due, Call call) {
        same(what, outcome(call), "throws." + due.getSimpleName());
    }

    static void noSuch(String what, Call call) {
        refused(what, IndexOutOfBoundsException.class, call);
    }

    static void badArgument(String what, Call call) {
        refused(what, IllegalArgumentException.class, call);
    }

    static void badState(String what, Call call) {
        refused(what, IllegalStateException.class, call);
    }

    /** The answer as a text, or throws. and the name of the exception. */
    static String outcome(Call call) {
        try {
            return String.valueOf(call.answer());
        } catch (RuntimeException e) {
            return "throws." + e.getClass().getSimpleName();
        }
    }

    /** Nothing that the object answers may be another after the calls. */
    static void unchanged(String what, SpringLevels x, Runnable calls) {
        String before = picture(x);
        calls.run();
        same("the object after " + what, picture(x), before);
    }

    /** All that the object answers. It takes a call for each cell: draw small levels, to stay below 512 calls. */
    static String picture(SpringLevels x) {
        StringBuilder all = new StringBuilder(runPicture(x)).append(" levels ").append(x.levels());
        for (int level = 0; level < x.levels(); level++) {
            all.append(levelPicture(x, level));
        }
        return all.toString();
    }

    static String levelPicture(SpringLevels x, int level) {
        StringBuilder all = new StringBuilder();
        all.append(" way ").append(x.way(level)).append(" open ").append(x.isOpen(level));
        all.append(" best ").append(x.bestPlayer(level)).append(" cells ").append(cells(x, level));
        for (int player = 0; player < 4; player++) {
            all.append(recordPicture(x, level, player));
        }
        return all.toString();
    }

    static String recordPicture(SpringLevels x, int level, int player) {
        return " record " + x.record(level, player) + "/" + x.half(level, player) + "/" + x.replay(level, player);
    }

    static String runPicture(SpringLevels x) {
        return "state " + x.state() + " frames " + x.frames() + " hero " + x.heroX() + "," + x.heroY() + " lift "
            + x.lift() + " left " + x.left() + " hint " + x.hint() + " ghost " + x.ghost();
    }

    /** The rows of a level from the top, with a stroke between them. */
    static String cells(SpringLevels x, int level) {
        StringBuilder all = new StringBuilder();
        for (int y = 0; holds(x, level, 0, y); y++) {
            all.append(y == 0 ? "" : "/");
            for (int at = 0; holds(x, level, at, y); at++) {
                all.append(".#^o".charAt(x.cell(level, at, y)));
            }
        }
        return all.toString();
    }

    private static boolean holds(SpringLevels x, int level, int at, int y) {
        return !outcome(() -> x.cell(level, at, y)).startsWith("throws");
    }

    /** A new level of these rows: . EMPTY, # BLOCK, ^ SPIKE, o SPRING, S the start, F the flag (both on EMPTY). */
    static int draw(SpringLevels x, String... rows) {
        int width = rows[0].length();
        int level = x.addLevel(width, rows.length);
        int[] start = find('S', rows);
        int[] flag = find('F', rows);
        // The places that start and flag have at first may be drawn as BLOCK, so these two move first.
        x.setCell(level, start[0], start[1], SpringLevels.EMPTY);
        x.setStart(level, start[0], start[1]);
        x.setCell(level, flag[0], flag[1], SpringLevels.EMPTY);
        x.setFlag(level, flag[0], flag[1]);
        for (int y = 0; y < rows.length; y++) {
            for (int at = 0; at < width; at++) {
                int kind = Math.max(0, ".#^o".indexOf(rows[y].charAt(at)));
                if (kind != (y == rows.length - 1 ? SpringLevels.BLOCK : SpringLevels.EMPTY)) {
                    x.setCell(level, at, y, kind);
                }
            }
        }
        return level;
    }

    private static int[] find(char sign, String... rows) {
        for (int y = 0; y < rows.length; y++) {
            if (rows[y].indexOf(sign) >= 0) {
                return new int[] {rows[y].indexOf(sign), y};
            }
        }
        throw new IllegalArgumentException("no " + sign + " is drawn");
    }

    /** Draws a level, solves and opens it; it must have a way. */
    static int drawOpen(SpringLevels x, String... rows) {
        int level = draw(x, rows);
        x.solve(level);
        x.open(level);
        return level;
    }

    /** Finds the way of level 0 anew, opens it, and begins a run of player 0: for use behind an edit. */
    static void beginAgain(SpringLevels x) {
        x.solve(0);
        x.open(0);
        x.begin(0, 0);
    }

    /** A new object whose level 0 is drawn so, and open, and on which player 0 has begun a run. */
    static SpringLevels begun(String... rows) {
        SpringLevels x = new SpringLevels();
        draw(x, rows);
        beginAgain(x);
        return x;
    }

    /** state:frames:x,y,lift. */
    static String hero(SpringLevels x) {
        return x.state() + ":" + x.frames() + ":" + x.heroX() + "," + x.heroY() + "," + x.lift();
    }

    /** Each step is an input, then the state, frames, x, y and lift behind it. */
    static void goes(SpringLevels x, String... steps) {
        for (String step : steps) {
            int input = step.charAt(0) - '0';
            String due = step.substring(2);
            same("14: play(" + input + ") towards " + due, x.play(input), due.charAt(0) - '0');
            same("15 to 19: the hero after play(" + input + ")", hero(x), due);
        }
    }

    /** A run of these inputs, one digit a frame; it must be WON. */
    static void win(SpringLevels x, int level, int player, String inputs) {
        x.begin(player, level);
        same("the run " + inputs, playAll(x, inputs), SpringLevels.WON);
    }

    /** Plays one digit a frame; answers what the last one answered. */
    static int playAll(SpringLevels x, String inputs) {
        int last = SpringLevels.NONE;
        for (char input : inputs.toCharArray()) {
            last = x.play(input - '0');
        }
        return last;
    }

    static void end(String test) {
        System.out.println(wrong == 0 ? test + ": all answers are as due" : test + ": " + wrong + " wrong");
        if (wrong != 0) {
            System.exit(1);
        }
    }
}
