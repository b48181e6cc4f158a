/** Small levels with springs and spikes: an editor, runs frame by frame, a solver, and records. */
public final class SpringLevels {
    public static final int NONE = -1;
    public static final int EMPTY = 0, BLOCK = 1, SPIKE = 2, SPRING = 3;
    public static final int RUNNING = 0, LOST = 1, WON = 2;

    private static final int MAX_LEVELS = 6;
    private static final int MIN_SIDE = 2, MAX_WIDTH = 12, MAX_HEIGHT = 8;
    private static final int MAX_SEED = 65535;
    private static final int PLAYERS = 4;
    private static final int INPUTS = 6;
    private static final int MAX_FRAMES = 100;
    private static final int JUMP_LIFT = 2, SPRING_LIFT = 4;
    private static final int LIFTS = SPRING_LIFT + 1;
    /** What is no cell of the level has this kind. */
    private static final int OUTSIDE = -1;

    private final Level[] shelf;
    private int levelCount;
    private final Run run;
    private final Hero trial;
    private final Search search;

    public SpringLevels() {
        shelf = new Level[MAX_LEVELS];
        levelCount = 0;
        run = new Run();
        trial = new Hero();
        search = new Search();
    }

    // ---- editing

    public int addLevel(int width, int height) throws IllegalArgumentException, IllegalStateException {
        if (width < MIN_SIDE || width > MAX_WIDTH || height < MIN_SIDE || height > MAX_HEIGHT) {
            throw new IllegalArgumentException("width or height is out of range");
        }
        if (levelCount < 0 || levelCount >= shelf.length) {
            throw new IllegalStateException("there are 6 levels");
        }
        int number = levelCount;
        shelf[number] = new Level(width, height);
        levelCount = number + 1;
        return number;
    }

    public int setCell(int level, int x, int y, int kind)
            throws IndexOutOfBoundsException, IllegalArgumentException, IllegalStateException {
        Level edited = levelWithCell(level, x, y);
        if (kind < EMPTY || kind > SPRING) {
            throw new IllegalArgumentException("no such kind");
        }
        if (kind == BLOCK && (edited.startsAt(x, y) || edited.flagAt(x, y))) {
            throw new IllegalStateException("the start or the flag is there");
        }
        int before = edited.kindAt(x, y);
        edited.put(x, y, kind);
        voidWhatWasFound(edited);
        return before;
    }

    public void setStart(int level, int x, int y) throws IndexOutOfBoundsException, IllegalStateException {
        Level edited = levelWithoutBlockAt(level, x, y);
        edited.startX = x;
        edited.startY = y;
        voidWhatWasFound(edited);
    }

    public void setFlag(int level, int x, int y) throws IndexOutOfBoundsException, IllegalStateException {
        Level edited = levelWithoutBlockAt(level, x, y);
        edited.flagX = x;
        edited.flagY = y;
        voidWhatWasFound(edited);
    }

    public int grow(int level, int seed) throws IndexOutOfBoundsException, IllegalArgumentException {
        Level edited = levelNumbered(level);
        if (seed < 0 || seed > MAX_SEED) {
            throw new IllegalArgumentException("seed is out of range");
        }
        edited.fillBySeed(seed);
        voidWhatWasFound(edited);
        return edited.countBlocks();
    }

    public int cell(int level, int x, int y) throws IndexOutOfBoundsException {
        return levelWithCell(level, x, y).kindAt(x, y);
    }

    public int levels() {
        return levelCount;
    }

    // ---- ways

    public int solve(int level) throws IndexOutOfBoundsException {
        Level solved = levelNumbered(level);
        trial.toStart(solved);
        search.findWin(solved, trial, MAX_FRAMES);
        solved.leastFrames = search.leastFrames;
        return solved.leastFrames;
    }

    public int way(int level) throws IndexOutOfBoundsException {
        return levelNumbered(level).leastFrames;
    }

    public boolean open(int level) throws IndexOutOfBoundsException, IllegalStateException {
        Level opened = levelNumbered(level);
        if (opened.leastFrames == NONE) {
            throw new IllegalStateException("no way of the level was found");
        }
        boolean before = opened.unlocked;
        opened.unlocked = true;
        return before;
    }

    public boolean isOpen(int level) throws IndexOutOfBoundsException {
        return levelNumbered(level).unlocked;
    }

    // ---- runs

    public int begin(int player, int level) throws IndexOutOfBoundsException, IllegalStateException {
        if (player < 0 || player >= PLAYERS) {
            throw new IndexOutOfBoundsException("no such player");
        }
        Level played = levelNumbered(level);
        if (!played.unlocked) {
            throw new IllegalStateException("the level is not open");
        }
        run.start(player, played);
        return run.hero.x;
    }

    public int play(int input) throws IllegalArgumentException, IllegalStateException {
        if (input < 0 || input >= INPUTS) {
            throw new IllegalArgumentException("input is out of range");
        }
        Level played = run.level;
        if (played == null || run.outcome != RUNNING) {
            throw new IllegalStateException("there is no run that is RUNNING");
        }
        run.advance(played, input);
        if (run.outcome == WON) {
            played.keepIfBetter(run.player, run.tape);
        }
        return run.outcome;
    }

    public int state() {
        return run.level == null ? NONE : run.outcome;
    }

    public int frames() {
        return run.level == null ? NONE : run.tape.length;
    }

    public int heroX() {
        return run.level == null ? NONE : run.hero.x;
    }

    public int heroY() {
        return run.level == null ? NONE : run.hero.y;
    }

    public int lift() {
        return run.level == null ? NONE : run.hero.lift;
    }

    public int left() {
        findWinOfRun();
        return search.leastFrames;
    }

    public int hint() {
        findWinOfRun();
        return search.firstInput;
    }

    // ---- records

    public int record(int level, int player) throws IndexOutOfBoundsException {
        return tapeOf(level, player).length;
    }

    public int half(int level, int player) throws IndexOutOfBoundsException {
        return tapeOf(level, player).halfLength;
    }

    public int bestPlayer(int level) throws IndexOutOfBoundsException {
        return levelNumbered(level).fastestPlayer();
    }

    public int ghost() {
        Level played = run.level;
        if (played == null) {
            return NONE;
        }
        Tape best = played.tapeOf(played.fastestPlayer());
        if (best == null) {
            return NONE;
        }
        follow(played, best, run.tape.length);
        return 100 * trial.y + trial.x;
    }

    public int replay(int level, int player) throws IndexOutOfBoundsException {
        Tape tape = tapeOf(level, player);
        return follow(levelNumbered(level), tape, tape.length);
    }

    // ---- what the calls share

    private Level levelNumbered(int level) {
        if (level < 0 || level >= shelf.length) {
            throw new IndexOutOfBoundsException("no such level");
        }
        Level found = shelf[level];
        if (found == null) {
            throw new IndexOutOfBoundsException("no such level");
        }
        return found;
    }

    private Level levelWithCell(int level, int x, int y) {
        Level found = levelNumbered(level);
        if (found.kindAt(x, y) == OUTSIDE) {
            throw new IndexOutOfBoundsException("no such cell");
        }
        return found;
    }

    private Level levelWithoutBlockAt(int level, int x, int y) {
        Level found = levelWithCell(level, x, y);
        if (found.kindAt(x, y) == BLOCK) {
            throw new IllegalStateException("the cell is BLOCK");
        }
        return found;
    }

    private Tape tapeOf(int level, int player) {
        Tape tape = levelNumbered(level).tapeOf(player);
        if (tape == null) {
            throw new IndexOutOfBoundsException("no such player");
        }
        return tape;
    }

    private void voidWhatWasFound(Level edited) {
        edited.forgetWayAndRecords();
        if (run.level == edited) {
            run.level = null;
        }
    }

    private void findWinOfRun() {
        Level played = run.level;
        if (played == null || run.outcome != RUNNING) {
            search.findNothing();
        } else {
            search.findWin(played, run.hero, MAX_FRAMES - run.tape.length);
        }
    }

    /** Leads the trial hero along the first frames of a tape; answers behind how many it is WON, or NONE. */
    private int follow(Level level, Tape tape, int limit) {
        trial.toStart(level);
        for (int frame = 0; frame < limit && frame < tape.length; frame++) {
            if (trial.move(level, tape.inputOf(frame)) == WON) {
                return frame + 1;
            }
        }
        return NONE;
    }

    private static final class Level {
        final int width, height;
        final int[] kinds;
        final Tape[] tapes;
        int startX, startY, flagX, flagY;
        /** The way, as it was found since the latest editing; NONE before. */
        int leastFrames;
        boolean unlocked;

        Level(int width, int height) {
            this.width = width;
            this.height = height;
            kinds = new int[MAX_WIDTH * MAX_HEIGHT];
            for (int x = 0; x < width; x++) {
                put(x, height - 1, BLOCK);
            }
            tapes = new Tape[PLAYERS];
            for (int player = 0; player < PLAYERS; player++) {
                tapes[player] = new Tape();
            }
            startX = 0;
            startY = height - 2;
            flagX = width - 1;
            flagY = height - 2;
            leastFrames = NONE;
            unlocked = false;
        }

        int kindAt(int x, int y) {
            boolean inside = x >= 0 && x < width && y >= 0 && y < height;
            return inside ? kinds[y * MAX_WIDTH + x] : OUTSIDE;
        }

        void put(int x, int y, int kind) {
            if (kindAt(x, y) != OUTSIDE) {
                kinds[y * MAX_WIDTH + x] = kind;
            }
        }

        boolean startsAt(int x, int y) {
            return x == startX && y == startY;
        }

        boolean flagAt(int x, int y) {
            return x == flagX && y == flagY;
        }

        void fillBySeed(int seed) {
            int n = seed;
            for (int y = 0; y < height; y++) {
                for (int x = 0; x < width; x++) {
                    n = (n * 1103 + 12345) % 65536;
                    put(x, y, y == height - 1 ? BLOCK : kindGrownFrom(n / 16 % 16));
                }
            }
            put(startX, startY, EMPTY);
            put(flagX, flagY, EMPTY);
        }

        private static int kindGrownFrom(int r) {
            if (r <= 3) {
                return BLOCK;
            }
            if (r == 4) {
                return SPIKE;
            }
            return r == 5 ? SPRING : EMPTY;
        }

        int countBlocks() {
            int blocks = 0;
            for (int y = 0; y < height; y++) {
                for (int x = 0; x < width; x++) {
                    if (kindAt(x, y) == BLOCK) {
                        blocks++;
                    }
                }
            }
            return blocks;
        }

        void forgetWayAndRecords() {
            leastFrames = NONE;
            unlocked = false;
            for (Tape tape : tapes) {
                tape.clear();
            }
        }

        /** The tape of a player's record; null if there is no such player. */
        Tape tapeOf(int player) {
            return player < 0 || player >= tapes.length ? null : tapes[player];
        }

        void keepIfBetter(int player, Tape won) {
            Tape kept = tapeOf(player);
            if (kept != null && (kept.length == NONE || kept.length > won.length)) {
                kept.copy(won);
            }
        }

        int fastestPlayer() {
            int fastest = NONE;
            int fewest = MAX_FRAMES + 1;
            for (int player = 0; player < tapes.length; player++) {
                int length = tapes[player].length;
                if (length != NONE && length < fewest) {
                    fastest = player;
                    fewest = length;
                }
            }
            return fastest;
        }
    }

    /** The inputs of a run, or of a record; the length is NONE as long as there is no record. */
    private static final class Tape {
        final int[] inputs;
        int length;
        int halfLength;

        Tape() {
            inputs = new int[MAX_FRAMES];
            length = NONE;
            halfLength = NONE;
        }

        void clear() {
            length = NONE;
            halfLength = NONE;
        }

        void rewind() {
            length = 0;
            halfLength = NONE;
        }

        void append(int input) {
            if (length >= 0 && length < inputs.length) {
                inputs[length] = input;
                length++;
            }
        }

        int inputOf(int frame) {
            return frame >= 0 && frame < inputs.length ? inputs[frame] : 0;
        }

        void noteColumn(int x, int width) {
            if (halfLength == NONE && x * 2 >= width) {
                halfLength = length;
            }
        }

        void copy(Tape other) {
            for (int frame = 0; frame < MAX_FRAMES; frame++) {
                inputs[frame] = other.inputs[frame];
            }
            length = other.length;
            halfLength = other.halfLength;
        }
    }

    /** Where the hero is; below the lowest row, if it is out of the level. */
    private static final class Hero {
        int x, y, lift;

        void place(int x, int y, int lift) {
            this.x = x;
            this.y = y;
            this.lift = lift;
        }

        void toStart(Level level) {
            place(level.startX, level.startY, 0);
        }

        /** Plays one frame; answers what the run is then, its number of frames left aside. */
        int move(Level level, int input) {
            if (input >= 3 && level.kindAt(x, y + 1) == BLOCK) {
                lift = JUMP_LIFT;
            }
            walk(level, input);
            if (lift > 0) {
                rise(level);
            } else {
                fall(level);
            }
            return look(level);
        }

        private void walk(Level level, int input) {
            int next = x;
            if (input == 1 || input == 4) {
                next = x - 1;
            } else if (input == 2 || input == 5) {
                next = x + 1;
            }
            int beside = level.kindAt(next, y);
            if (beside != OUTSIDE && beside != BLOCK) {
                x = next;
            }
        }

        private void rise(Level level) {
            int above = level.kindAt(x, y - 1);
            if (above == OUTSIDE || above == BLOCK) {
                lift = 0;
            } else {
                y--;
                lift--;
            }
        }

        private void fall(Level level) {
            if (level.kindAt(x, y + 1) != BLOCK) {
                y++;
            }
        }

        private int look(Level level) {
            int here = level.kindAt(x, y);
            if (here == OUTSIDE || here == SPIKE) {
                return LOST;
            }
            if (here == SPRING) {
                lift = SPRING_LIFT;
            }
            return level.flagAt(x, y) ? WON : RUNNING;
        }
    }

    private static final class Run {
        final Hero hero;
        final Tape tape;
        /** The level of the run; null if there is no run. */
        Level level;
        int player;
        int outcome;

        Run() {
            hero = new Hero();
            tape = new Tape();
            level = null;
            player = 0;
            outcome = RUNNING;
        }

        void start(int player, Level level) {
            this.player = player;
            this.level = level;
            outcome = RUNNING;
            hero.toStart(level);
            tape.rewind();
            tape.noteColumn(hero.x, level.width);
        }

        void advance(Level level, int input) {
            outcome = hero.move(level, input);
            tape.append(input);
            tape.noteColumn(hero.x, level.width);
            if (outcome == RUNNING && tape.length >= MAX_FRAMES) {
                outcome = LOST;
            }
        }
    }

    /** Looks for the nearest win, breadth first over the places of the hero: its cells and lifts. */
    private static final class Search {
        private static final int PLACES = MAX_WIDTH * MAX_HEIGHT * LIFTS;

        /** Behind how many frames each place was reached; NONE if it was not. */
        final int[] depths;
        /** With which input the frames to each place began. */
        final int[] firstInputs;
        final int[] queue;
        final Hero probe;
        int queued;
        /** What was found last: the frames to the win and the first input of them, or NONE. */
        int leastFrames, firstInput;

        Search() {
            depths = new int[PLACES];
            firstInputs = new int[PLACES];
            queue = new int[PLACES];
            probe = new Hero();
            queued = 0;
            leastFrames = NONE;
            firstInput = NONE;
        }

        void findNothing() {
            leastFrames = NONE;
            firstInput = NONE;
        }

        /** Finds the least number of frames from a hero's place to a win, if the limit allows it. */
        void findWin(Level level, Hero from, int limit) {
            findNothing();
            forgetPlaces();
            reach(from, 0, NONE);
            for (int next = 0; next < queued && next < PLACES && leastFrames == NONE; next++) {
                int place = queue[next];
                if (place < 0 || place >= PLACES || depths[place] >= limit) {
                    return;
                }
                tryInputs(level, place, depths[place] + 1);
            }
        }

        private void forgetPlaces() {
            queued = 0;
            for (int place = 0; place < PLACES; place++) {
                depths[place] = NONE;
            }
        }

        private void reach(Hero hero, int depth, int begunWith) {
            int place = (hero.y * MAX_WIDTH + hero.x) * LIFTS + hero.lift;
            if (place < 0 || place >= PLACES || queued >= PLACES || depths[place] != NONE) {
                return;
            }
            depths[place] = depth;
            firstInputs[place] = begunWith;
            queue[queued] = place;
            queued++;
        }

        /**
         * The lowest input goes first. So the places of one depth wait in the order of their first inputs,
         * and the first win that is met is one with the lowest first input.
         */
        private void tryInputs(Level level, int place, int depth) {
            int begunWith = place < 0 || place >= PLACES ? NONE : firstInputs[place];
            int cellNumber = place / LIFTS;
            for (int input = 0; input < INPUTS; input++) {
                probe.place(cellNumber % MAX_WIDTH, cellNumber / MAX_WIDTH, place % LIFTS);
                int outcome = probe.move(level, input);
                int first = begunWith == NONE ? input : begunWith;
                if (outcome == WON) {
                    leastFrames = depth;
                    firstInput = first;
                    return;
                }
                if (outcome == RUNNING) {
                    reach(probe, depth, first);
                }
            }
        }
    }
}
