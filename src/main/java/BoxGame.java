/** Plays the game of dots and boxes on two by two boxes, and says how it would end. */
public final class BoxGame {
    public static final int NONE = -1;
    public static final int MANY = -100;

    private static final int EDGES = 12;
    private static final int BOXES = 4;
    private static final int ALL_FREE = 4095;
    private static final int POSITIONS = 4096;
    private static final int MOST_FREE_JUDGED = 8;
    // Four boxes can be lost at most, so every worth is above this.
    private static final int BELOW_EVERY_WORTH = -5;

    // The value of a position hangs on its free edges alone, so they are its index here.
    private final int[] values = new int[POSITIONS];

    private final int[] boxOwners = new int[BOXES];
    private final int[] drawnEdges = new int[EDGES];
    private final int[] drawers = new int[EDGES];
    private int drawCount;
    private int freeEdges;
    private int nextPlayer;

    public BoxGame() {
        fillValues();
        beginGame();
    }

    public int draw(int e) {
        if (!isFree(e)) {
            return NONE;
        }
        return drawFree(e);
    }

    public int back() {
        if (drawCount == 0) {
            return NONE;
        }
        drawCount--;
        int e = drawnEdges[drawCount];
        freeEdges |= 1 << e;
        nextPlayer = drawers[drawCount];
        for (int box = 0; box < BOXES; box++) {
            if (isLastOf(box, e, freeEdges)) {
                boxOwners[box] = NONE;
            }
        }
        return e;
    }

    public void restart() {
        beginGame();
    }

    public int turn() {
        return freeEdges == 0 ? NONE : nextPlayer;
    }

    public int free() {
        return freeEdges;
    }

    public int boxes(int player) {
        if (!isPlayer(player)) {
            return NONE;
        }
        return boxesOf(player);
    }

    public int owner(int r, int c) {
        if (r < 0 || r > 1 || c < 0 || c > 1) {
            return NONE;
        }
        return boxOwners[2 * r + c];
    }

    public int value() {
        if (tooManyFree()) {
            return MANY;
        }
        return values[freeEdges];
    }

    public int worth(int e) {
        if (tooManyFree() || !isFree(e)) {
            return MANY;
        }
        return worthIn(freeEdges, e);
    }

    public int best() {
        if (tooManyFree()) {
            return MANY;
        }
        return leastBestIn(freeEdges);
    }

    public int bestEdges() {
        if (tooManyFree()) {
            return MANY;
        }
        int found = 0;
        for (int e = 0; e < EDGES; e++) {
            if (isBestIn(freeEdges, e)) {
                found |= 1 << e;
            }
        }
        return found;
    }

    public int forecast(int player) {
        if (!isPlayer(player)) {
            return NONE;
        }
        if (tooManyFree()) {
            return MANY;
        }
        int count = boxesOf(player);
        int drawer = nextPlayer;
        int rest = freeEdges;
        for (int i = 0; i < EDGES && rest != 0; i++) {
            int e = leastBestIn(rest);
            int completed = completedIn(rest, e);
            if (completed == 0) {
                drawer = 1 - drawer;
            } else if (drawer == player) {
                count += completed;
            }
            rest &= ~(1 << e);
        }
        return count;
    }

    public int playOut(int n) {
        if (tooManyFree()) {
            return MANY;
        }
        int drawn = 0;
        while (drawn < n && drawn < EDGES && freeEdges != 0) {
            int e = leastBestIn(freeEdges);
            drawFree(e);
            drawn++;
        }
        return drawn;
    }

    // Drawing an edge lowers the index, so the positions it leads to are valued already.
    private void fillValues() {
        values[0] = 0;
        for (int position = 1; position < POSITIONS; position++) {
            values[position] = greatestWorthIn(position);
        }
    }

    private void beginGame() {
        freeEdges = ALL_FREE;
        nextPlayer = 0;
        drawCount = 0;
        for (int box = 0; box < BOXES; box++) {
            boxOwners[box] = NONE;
        }
    }

    private int drawFree(int e) {
        int completed = 0;
        for (int box = 0; box < BOXES; box++) {
            if (isLastOf(box, e, freeEdges)) {
                boxOwners[box] = nextPlayer;
                completed++;
            }
        }
        drawnEdges[drawCount] = e;
        drawers[drawCount] = nextPlayer;
        drawCount++;
        freeEdges &= ~(1 << e);
        if (completed == 0) {
            nextPlayer = 1 - nextPlayer;
        }
        return completed;
    }

    private int boxesOf(int player) {
        int count = 0;
        for (int box = 0; box < BOXES; box++) {
            if (boxOwners[box] == player) {
                count++;
            }
        }
        return count;
    }

    private boolean tooManyFree() {
        return EDGES - drawCount > MOST_FREE_JUDGED;
    }

    private boolean isFree(int e) {
        return isFreeIn(freeEdges, e);
    }

    private int greatestWorthIn(int position) {
        int greatest = BELOW_EVERY_WORTH;
        for (int e = 0; e < EDGES; e++) {
            if (isFreeIn(position, e)) {
                int found = worthIn(position, e);
                greatest = found > greatest ? found : greatest;
            }
        }
        return greatest;
    }

    private int worthIn(int position, int e) {
        int completed = completedIn(position, e);
        int valueAfter = values[position & ~(1 << e)];
        return completed > 0 ? completed + valueAfter : -valueAfter;
    }

    private boolean isBestIn(int position, int e) {
        return isFreeIn(position, e) && worthIn(position, e) == values[position];
    }

    private int leastBestIn(int position) {
        for (int e = 0; e < EDGES; e++) {
            if (isBestIn(position, e)) {
                return e;
            }
        }
        return NONE;
    }

    private static boolean isPlayer(int player) {
        return player == 0 || player == 1;
    }

    // Java shifts by e modulo 32, so the bit alone would take 32 for edge 0.
    private static boolean isFreeIn(int position, int e) {
        return e >= 0 && e < EDGES && (position & (1 << e)) != 0;
    }

    private static int completedIn(int position, int e) {
        int count = 0;
        for (int box = 0; box < BOXES; box++) {
            if (isLastOf(box, e, position)) {
                count++;
            }
        }
        return count;
    }

    private static boolean isLastOf(int box, int e, int position) {
        int r = box / 2;
        int c = box % 2;
        int top = 1 << (2 * r + c);
        int bottom = 1 << (2 * (r + 1) + c);
        int left = 1 << (6 + 3 * r + c);
        int right = 1 << (6 + 3 * r + c + 1);
        return (position & (top | bottom | left | right)) == 1 << e;
    }
}
