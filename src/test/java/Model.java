import java.util.ArrayList;
import java.util.List;

/**
 * The document once more, written in another way than the class: plain grids, ways by rounds from the flag
 * backwards, and ghosts kept as the list of the cells that the hero was at. It may be slow.
 */
final class Model {
    private static final int NONE = -1;

    final List<Grid> grids = new ArrayList<>();
    private Grid runGrid;
    private int runPlayer;
    private int runState;
    private int[] hero;
    private List<int[]> trail;

    static final class Grid {
        final int width;
        final int height;
        final int[][] kind;
        int[] start;
        int[] flag;
        int way = NONE;
        boolean open;
        @SuppressWarnings("unchecked")
        final List<int[]>[] trails = (List<int[]>[]) new List<?>[4];
        int[][][] distances;

        Grid(int width, int height) {
            this.width = width;
            this.height = height;
            kind = new int[height][width];
            java.util.Arrays.fill(kind[height - 1], 1);
            start = new int[] {0, height - 2};
            flag = new int[] {width - 1, height - 2};
        }

        private boolean in(int x, int y) {
            return 0 <= x && x < width && 0 <= y && y < height;
        }

        private int at(int x, int y) {
            return in(x, y) ? kind[y][x] : 0;
        }

        /** The hero {x, y, lift} one frame later, with what the run is then as a fourth number. */
        int[] after(int[] hero, int input) {
            int x = hero[0];
            int y = hero[1];
            int lift = hero[2];
            if (input > 2 && at(x, y + 1) == 1) {
                lift = 2;
            }
            int to = x + new int[] {0, -1, 1, 0, -1, 1}[input];
            if (in(to, y) && at(to, y) != 1) {
                x = to;
            }
            if (lift == 0) {
                y += at(x, y + 1) == 1 ? 0 : 1;
            } else if (y == 0 || at(x, y - 1) == 1) {
                lift = 0;
            } else {
                y -= 1;
                lift -= 1;
            }
            int state = 0;
            if (y == height || at(x, y) == 2) {
                state = 1;
            } else {
                lift = at(x, y) == 3 ? 4 : lift;
                state = x == flag[0] && y == flag[1] ? 2 : 0;
            }
            return new int[] {x, y, lift, state};
        }

        /** The least frames from every hero to a win, without a limit; a thousand if there is no way. */
        int[][][] distances() {
            if (distances != null) {
                return distances;
            }
            int[][][] least = new int[width][height][5];
            for (int[][] column : least) {
                for (int[] place : column) {
                    java.util.Arrays.fill(place, 1000);
                }
            }
            boolean changed = true;
            while (changed) {
                changed = false;
                for (int place = 0; place < width * height * 5; place++) {
                    int[] from = {place / 5 % width, place / 5 / width, place % 5};
                    for (int input = 0; input < 6; input++) {
                        int frames = 1 + further(least, after(from, input));
                        if (frames < least[from[0]][from[1]][from[2]]) {
                            least[from[0]][from[1]][from[2]] = frames;
                            changed = true;
                        }
                    }
                }
            }
            distances = least;
            return least;
        }

        static int further(int[][][] least, int[] then) {
            if (then[3] == 2) {
                return 0;
            }
            return then[3] == 1 ? 1000 : least[then[0]][then[1]][then[2]];
        }
    }

    private Grid grid(int level) {
        if (level < 0 || level >= grids.size()) {
            throw new IndexOutOfBoundsException();
        }
        return grids.get(level);
    }

    private Grid gridWith(int level, int x, int y) {
        Grid grid = grid(level);
        if (!grid.in(x, y)) {
            throw new IndexOutOfBoundsException();
        }
        return grid;
    }

    private static void refuse(boolean argument, boolean state) {
        if (argument) {
            throw new IllegalArgumentException();
        }
        if (state) {
            throw new IllegalStateException();
        }
    }

    private static boolean is(int[] place, int x, int y) {
        return place[0] == x && place[1] == y;
    }

    private void edited(Grid grid) {
        grid.way = NONE;
        grid.open = false;
        grid.distances = null;
        java.util.Arrays.fill(grid.trails, null);
        if (runGrid == grid) {
            runGrid = null;
        }
    }

    int addLevel(int width, int height) {
        refuse(width < 2 || width > 12 || height < 2 || height > 8, grids.size() == 6);
        grids.add(new Grid(width, height));
        return grids.size() - 1;
    }

    int setCell(int level, int x, int y, int kind) {
        Grid grid = gridWith(level, x, y);
        refuse(kind < 0 || kind > 3, kind == 1 && (is(grid.start, x, y) || is(grid.flag, x, y)));
        int before = grid.kind[y][x];
        grid.kind[y][x] = kind;
        edited(grid);
        return before;
    }

    void setStart(int level, int x, int y) {
        Grid grid = gridWith(level, x, y);
        refuse(false, grid.kind[y][x] == 1);
        grid.start = new int[] {x, y};
        edited(grid);
    }

    void setFlag(int level, int x, int y) {
        Grid grid = gridWith(level, x, y);
        refuse(false, grid.kind[y][x] == 1);
        grid.flag = new int[] {x, y};
        edited(grid);
    }

    int grow(int level, int seed) {
        Grid grid = grid(level);
        refuse(seed < 0 || seed > 65535, false);
        long n = seed;
        for (int[] row : grid.kind) {
            for (int x = 0; x < grid.width; x++) {
                n = (n * 1103L + 12345L) & 0xffffL;
                row[x] = new int[] {1, 1, 1, 1, 2, 3, 0, 0, 0, 0, 0, 0, 0, 0, 0, 0}[(int) (n >> 4 & 15)];
            }
        }
        java.util.Arrays.fill(grid.kind[grid.height - 1], 1);
        grid.kind[grid.start[1]][grid.start[0]] = 0;
        grid.kind[grid.flag[1]][grid.flag[0]] = 0;
        edited(grid);
        int blocks = 0;
        for (int[] row : grid.kind) {
            for (int kind : row) {
                blocks += kind == 1 ? 1 : 0;
            }
        }
        return blocks;
    }

    int cell(int level, int x, int y) {
        return gridWith(level, x, y).kind[y][x];
    }

    int levels() {
        return grids.size();
    }

    int solve(int level) {
        Grid grid = grid(level);
        int frames = grid.distances()[grid.start[0]][grid.start[1]][0];
        grid.way = frames <= 100 ? frames : NONE;
        return grid.way;
    }

    int way(int level) {
        return grid(level).way;
    }

    boolean open(int level) {
        Grid grid = grid(level);
        refuse(false, grid.way == NONE);
        boolean before = grid.open;
        grid.open = true;
        return before;
    }

    boolean isOpen(int level) {
        return grid(level).open;
    }

    int begin(int player, int level) {
        Grid grid = grid(level);
        trailOf(level, player);
        refuse(false, !grid.open);
        runGrid = grid;
        runPlayer = player;
        runState = 0;
        hero = new int[] {grid.start[0], grid.start[1], 0, 0};
        trail = new ArrayList<>(List.of(hero));
        return hero[0];
    }

    int play(int input) {
        refuse(input < 0 || input > 5, runGrid == null || runState != 0);
        hero = runGrid.after(hero, input);
        trail.add(hero);
        runState = hero[3];
        if (runState == 0 && frames() == 100) {
            runState = 1;
        }
        List<int[]> old = runGrid.trails[runPlayer];
        if (runState == 2 && (old == null || old.size() > trail.size())) {
            runGrid.trails[runPlayer] = trail;
        }
        return runState;
    }

    int state() {
        return runGrid == null ? NONE : runState;
    }

    int frames() {
        return runGrid == null ? NONE : trail.size() - 1;
    }

    int heroX() {
        return runGrid == null ? NONE : hero[0];
    }

    int heroY() {
        return runGrid == null ? NONE : hero[1];
    }

    int lift() {
        return runGrid == null ? NONE : hero[2];
    }

    int left() {
        if (state() != 0) {
            return NONE;
        }
        int further = runGrid.distances()[hero[0]][hero[1]][hero[2]];
        return frames() + further <= 100 ? further : NONE;
    }

    int hint() {
        int input = 0;
        int left = left();
        if (left == NONE) {
            return NONE;
        }
        while (1 + Grid.further(runGrid.distances(), runGrid.after(hero, input)) != left) {
            input++;
        }
        return input;
    }

    private List<int[]> trailOf(int level, int player) {
        Grid grid = grid(level);
        if (player < 0 || player > 3) {
            throw new IndexOutOfBoundsException();
        }
        return grid.trails[player];
    }

    int record(int level, int player) {
        List<int[]> kept = trailOf(level, player);
        return kept == null ? NONE : kept.size() - 1;
    }

    int half(int level, int player) {
        List<int[]> kept = trailOf(level, player);
        for (int frame = 0; kept != null && frame < kept.size(); frame++) {
            if (kept.get(frame)[0] * 2 >= grid(level).width) {
                return frame;
            }
        }
        return NONE;
    }

    private static int best(Grid grid) {
        int best = NONE;
        for (int player = 3; player >= 0; player--) {
            List<int[]> kept = grid.trails[player];
            if (kept != null && (best == NONE || kept.size() <= grid.trails[best].size())) {
                best = player;
            }
        }
        return best;
    }

    int bestPlayer(int level) {
        return best(grid(level));
    }

    int ghost() {
        if (runGrid == null || best(runGrid) == NONE) {
            return NONE;
        }
        List<int[]> kept = runGrid.trails[best(runGrid)];
        int[] there = kept.get(Math.min(frames(), kept.size() - 1));
        return 100 * there[1] + there[0];
    }

    int replay(int level, int player) {
        return record(level, player);
    }
}
