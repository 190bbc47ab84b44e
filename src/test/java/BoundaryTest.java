import java.util.Arrays;
import java.util.function.ToIntFunction;

/**
 * Each sentence of the document that names a boundary case, by a test of its own. Where a call is
 * refused, the object is compared with a twin that was never asked: see changesNothing.
 */
public final class BoundaryTest {
    private static final int NONE = -1;
    private static final int MANY = -100;
    private static final int MIN = Integer.MIN_VALUE;
    private static final int MAX = Integer.MAX_VALUE;

    // Beside the bounds and the extremes: numbers that a shift, a byte or a short would take for an edge.
    private static final int[] NOT_EDGES =
        {-1, 12, MIN, MAX, -2, 13, MIN + 1, MAX - 1, MIN + 11, 31, 32, 43, 44, -32, -21, 256, 267, 65536, MANY};
    private static final int[] NOT_BITS =
        {-1, 2, MIN, MAX, -2, 3, MIN + 1, MAX - 1, 32, 33, -32, 256, 257, 65536, 65537, MANY};

    private static final int[] NEW = {};
    private static final int[] NINE_FREE = {0, 1, 4};
    private static final int[] NINE_FREE_ONE_EDGE_FROM_A_BOX = {7, 2, 0};
    private static final int[] EIGHT_FREE = {0, 1, 4, 5};
    private static final int[] EIGHT_FREE_ONE_BOX = {0, 2, 6, 7};
    // Free are 2, 3, 7 and 10, which go around the middle: whoever draws one gives all four boxes away.
    private static final int[] RING_FREE = {0, 1, 4, 5, 6, 8, 9, 11};
    // Free are 0, 1 and 6; player 0 has box 1 0, player 1 has box 1 1 and draws next.
    private static final int[] THREE_FREE = {3, 5, 10, 8, 2, 4, 9, 7, 11};
    // Free is 7 alone, the last edge of two boxes; player 1 has the two others and draws next.
    private static final int[] ONE_FREE = {0, 1, 2, 3, 4, 5, 6, 8, 9, 10, 11};
    private static final int[] OVER = {0, 1, 2, 3, 4, 5, 6, 8, 9, 10, 11, 7};

    private static final int[][] MORE_THAN_EIGHT_FREE =
        {NEW, {11}, {6, 5}, NINE_FREE, NINE_FREE_ONE_EDGE_FROM_A_BOX};
    private static final int[][] AT_MOST_EIGHT_FREE =
        {EIGHT_FREE, EIGHT_FREE_ONE_BOX, RING_FREE, THREE_FREE, ONE_FREE, OVER};
    private static final int[][] BOX_EDGES = {{0, 2, 6, 7}, {1, 3, 7, 8}, {2, 4, 9, 10}, {3, 5, 10, 11}};
    private static final int[][] ORDERS = {
        {0, 1, 2, 3, 4, 5, 6, 7, 8, 9, 10, 11}, {11, 10, 9, 8, 7, 6, 5, 4, 3, 2, 1, 0},
        {0, 2, 6, 7, 1, 3, 8, 4, 9, 10, 5, 11}, {2, 3, 7, 10, 0, 6, 11, 5, 1, 8, 4, 9},
        {0, 1, 4, 5, 6, 8, 9, 11, 2, 7, 3, 10}, {0, 6, 4, 9, 7, 10, 2, 1, 5, 8, 11, 3}};

    private static String sentence = "";
    private static int wrong = 0;

    private static void due(String call, int got, int want) {
        if (got != want) {
            wrong++;
            System.out.println(sentence + ": " + call + " answered " + got + ", due is " + want);
        }
    }

    private static void holds(String words, Runnable test) {
        sentence = words;
        try {
            test.run();
        } catch (RuntimeException thrown) {
            wrong++;
            System.out.println(sentence + ": threw " + thrown);
        }
    }

    private static BoxGame after(int... draws) {
        BoxGame x = new BoxGame();
        for (int e : draws) {
            x.draw(e);
        }
        return x;
    }

    private static int[] first(int count, int[] order) {
        return Arrays.copyOf(order, count);
    }

    /** A game in which just the given edges are free, the others drawn from 0 up. */
    private static BoxGame allBut(int... free) {
        BoxGame x = new BoxGame();
        for (int e = 0; e < 12; e++) {
            if (!contains(free, e)) {
                x.draw(e);
            }
        }
        return x;
    }

    private static boolean contains(int[] numbers, int wanted) {
        return Arrays.stream(numbers).anyMatch(n -> n == wanted);
    }

    private static int[] seen(BoxGame x) {
        int[] all = new int[25];
        int[] plain = {x.free(), x.turn(), x.boxes(0), x.boxes(1), x.owner(0, 0), x.owner(0, 1), x.owner(1, 0),
            x.owner(1, 1), x.value(), x.best(), x.bestEdges(), x.forecast(0), x.forecast(1)};
        System.arraycopy(plain, 0, all, 0, plain.length);
        for (int e = 0; e < 12; e++) {
            all[plain.length + e] = x.worth(e);
        }
        return all;
    }

    private static void looksSame(String when, BoxGame x, BoxGame twin) {
        int[] got = seen(x);
        int[] want = seen(twin);
        if (!Arrays.equals(got, want)) {
            wrong++;
            System.out.println(sentence + ": " + when + " shows " + Arrays.toString(got) + ", due is "
                + Arrays.toString(want));
        }
    }

    /** Compares what is seen, then every draw taken back, then a whole game after it. Uses both objects up. */
    private static void sameGame(String when, BoxGame x, BoxGame twin) {
        looksSame(when, x, twin);
        for (int i = 0; i <= 12 && twin.free() != 4095; i++) {
            due(when + ", then back()", x.back(), twin.back());
            looksSame(when + ", then back()", x, twin);
        }
        due(when + ", all taken back, then back()", x.back(), NONE);
        for (int e = 0; e < 12; e++) {
            due(when + ", all taken back, then draw(" + e + ")", x.draw(e), twin.draw(e));
        }
        looksSame(when + ", all taken back, then a whole game", x, twin);
    }

    /** The call has the answer that is due, and all is as with a twin that it was not made on. */
    private static void changesNothing(String call, ToIntFunction<BoxGame> made, int want, int... draws) {
        BoxGame x = after(draws);
        String when = "after draws " + Arrays.toString(draws) + " " + call;
        due(when, made.applyAsInt(x), want);
        sameGame(when, x, after(draws));
        goesOnUnchanged(when, made, draws);
    }

    /** What the call breaks would be broken in the twin too if the twin were asked: here it only draws. */
    private static void goesOnUnchanged(String when, ToIntFunction<BoxGame> made, int... draws) {
        BoxGame x = after(draws);
        made.applyAsInt(x);
        for (int i = draws.length - 1; i >= 0; i--) {
            due(when + ", then back() alone", x.back(), draws[i]);
        }
        due(when + ", then back() alone, once more", x.back(), NONE);
        x = after(draws);
        made.applyAsInt(x);
        BoxGame twin = after(draws);
        for (int e = 0; e < 12; e++) {
            due(when + ", then draw(" + e + ") alone", x.draw(e), twin.draw(e));
        }
        looksSame(when + ", then draws alone", x, twin);
    }

    private static void changesNothingAnywhere(String call, ToIntFunction<BoxGame> made, int want) {
        for (int[] draws : MORE_THAN_EIGHT_FREE) {
            changesNothing(call, made, want, draws);
        }
        for (int[] draws : AT_MOST_EIGHT_FREE) {
            changesNothing(call, made, want, draws);
        }
    }

    // ---- What it is, and Terms

    private static void use512Draws() {
        BoxGame x = after(OVER);
        for (int call = 13; call <= 512; call++) {
            if (call % 2 == 1) {
                due("call " + call + ", back()", x.back(), 7);
            } else {
                due("call " + call + ", draw(7)", x.draw(7), 2);
            }
        }
    }

    private static void use512PlayedOut() {
        BoxGame x = after(RING_FREE);
        for (int call = 9; call + 4 <= 508; call += 5) {
            due("call " + call + ", playOut(12)", x.playOut(12), 4);
            for (int e : new int[] {10, 3, 7, 2}) {
                due("a back() of the four after call " + call, x.back(), e);
            }
        }
        due("call 509, turn()", x.turn(), 0);
        due("call 510, draw(10)", x.draw(10), 0);
        due("call 511, forecast(1)", x.forecast(1), 4);
        due("call 512, playOut(MAX)", x.playOut(MAX), 3);
    }

    private static void use512Refused() {
        BoxGame x = after(0);
        for (int i = 0; i < 127; i++) {
            due("draw(0) refused", x.draw(0), NONE);
            due("draw(12) refused", x.draw(12), NONE);
            due("playOut(1) refused", x.playOut(1), MANY);
            due("boxes(2) refused", x.boxes(2), NONE);
        }
        due("call 510, back()", x.back(), 0);
        due("call 511, back()", x.back(), NONE);
        due("call 512, draw(0)", x.draw(0), 0);
        x = new BoxGame();
        for (int call = 1; call <= 511; call++) {
            due("call " + call + ", back()", x.back(), NONE);
        }
        due("call 512, draw(11)", x.draw(11), 0);
    }

    private static void use512Restarted() {
        BoxGame x = new BoxGame();
        for (int game = 0; game < 39; game++) {
            int boxes = 0;
            for (int e : ORDERS[game % ORDERS.length]) {
                boxes += x.draw(e);
            }
            due("boxes of game " + game, boxes, 4);
            x.restart();
        }
        due("call 508, free()", x.free(), 4095);
        due("call 509, turn()", x.turn(), 0);
        due("call 510, back()", x.back(), NONE);
        due("call 511, draw(11)", x.draw(11), 0);
        due("call 512, free()", x.free(), 2047);
    }

    private static void edgesOfEachBox() {
        for (int box = 0; box < 4; box++) {
            for (int last : BOX_EDGES[box]) {
                BoxGame x = new BoxGame();
                for (int e : BOX_EDGES[box]) {
                    if (e != last) {
                        due("draw(" + e + ") of box " + box, x.draw(e), 0);
                    }
                }
                due("owner of box " + box + " without edge " + last, x.owner(box / 2, box % 2), NONE);
                due("draw(" + last + "), the last of box " + box, x.draw(last), 1);
                for (int other = 0; other < 4; other++) {
                    due("owner of box " + other + " after box " + box, x.owner(other / 2, other % 2),
                        other == box ? 1 : NONE);
                }
            }
        }
    }

    private static void threeEdgesAreNoBox() {
        for (int[] edges : BOX_EDGES) {
            for (int last : edges) {
                for (int beside = 0; beside < 12; beside++) {
                    if (!contains(edges, beside)) {
                        BoxGame x = new BoxGame();
                        for (int e : edges) {
                            x.draw(e == last ? beside : e);
                        }
                        due("boxes(0) without edge " + last + ", with " + beside, x.boxes(0), 0);
                        due("boxes(1) without edge " + last + ", with " + beside, x.boxes(1), 0);
                        due("turn() without edge " + last + ", with " + beside, x.turn(), 0);
                    }
                }
            }
        }
    }

    private static void oneBoxThenAgain() {
        for (int e : new int[] {0, 1, 4, 5, 6, 8, 9, 11}) {
            BoxGame x = allBut(e);
            int player = x.turn();
            int before = x.boxes(player);
            due("draw(" + e + ") last of all", x.draw(e), 1);
            due("boxes of its drawer", x.boxes(player), before + 1);
            due("back()", x.back(), e);
            due("turn()", x.turn(), player);
        }
        BoxGame x = after(0, 2, 6);
        due("draw(7)", x.draw(7), 1);
        due("turn() after one box", x.turn(), 1);
        due("draw(9)", x.draw(9), 0);
        due("turn() after no box", x.turn(), 0);
    }

    private static void twoBoxesThenAgain() {
        int[][] sixThenInner = {{0, 2, 6, 1, 3, 8, 7}, {2, 4, 9, 3, 5, 11, 10}, {0, 6, 7, 4, 9, 10, 2},
            {1, 7, 8, 5, 10, 11, 3}};
        int[][] owned = {{0, 0, NONE, NONE}, {NONE, NONE, 0, 0}, {0, NONE, 0, NONE}, {NONE, 0, NONE, 0}};
        for (int i = 0; i < 4; i++) {
            BoxGame x = after(first(6, sixThenInner[i]));
            int e = sixThenInner[i][6];
            due("draw(" + e + ")", x.draw(e), 2);
            due("turn() after edge " + e, x.turn(), 0);
            due("boxes(0) after edge " + e, x.boxes(0), 2);
            due("boxes(1) after edge " + e, x.boxes(1), 0);
            for (int box = 0; box < 4; box++) {
                due("owner of box " + box + " after edge " + e, x.owner(box / 2, box % 2), owned[i][box]);
            }
        }
    }

    private static void overWhenNoneIsFree() {
        for (int[] order : ORDERS) {
            BoxGame x = after(first(11, order));
            due("turn() is a player's with one free", x.turn() == 0 || x.turn() == 1 ? 1 : 0, 1);
            due("best() with one free", x.best(), order[11]);
            x.draw(order[11]);
            due("turn() with none free", x.turn(), NONE);
            due("all boxes are had", x.boxes(0) + x.boxes(1), 4);
        }
    }

    private static void valueIsZeroWhenOver() {
        for (int[] order : ORDERS) {
            due("value()", after(order).value(), 0);
        }
        due("value() with one box for each side, not over", allBut(0, 1, 6).value(), 0);
    }

    private static void valueIsGreatestWorth() {
        due("value() of a ring to give away", after(RING_FREE).value(), -4);
        BoxGame x = after(RING_FREE);
        x.draw(2);
        due("value() of a ring to take", x.value(), 4);
        due("value() where both worths are -1", allBut(0, 6).value(), -1);
        due("value() where the worths are 2 and -2", allBut(0, 7).value(), 2);
        due("value() where the worths are 1, -1 and no more", allBut(0, 1, 2, 4, 8).value(), 1);
    }

    private static void worthWithBoxes() {
        due("worth(0), one box, then over", allBut(0).worth(0), 1);
        due("worth(7), two boxes, then over", allBut(7).worth(7), 2);
        due("worth(1), one box, then value -1", allBut(0, 1, 6).worth(1), 0);
        due("worth(7), two boxes, then value -1", allBut(4, 7, 9).worth(7), 1);
        due("worth(7), one box, then value 1", allBut(0, 7).worth(7), 2);
    }

    private static void worthWithoutBoxes() {
        due("worth(0), then value 1", allBut(0, 6).worth(0), -1);
        due("worth(0), then value 2", allBut(0, 7).worth(0), -2);
        due("worth(4), then value 3", allBut(4, 7, 9).worth(4), -3);
        due("worth(10), then value 4", after(RING_FREE).worth(10), -4);
        due("worth(1), then value -1", allBut(0, 1, 2, 4, 8).worth(1), 1);
        due("worth(0), then value 1, with five free", allBut(0, 1, 2, 4, 8).worth(0), -1);
    }

    // ---- Promises 1 to 8

    private static void newObject() {
        BoxGame x = new BoxGame();
        due("free()", x.free(), 4095);
        due("turn()", x.turn(), 0);
        for (int e = 0; e < 12; e++) {
            due("draw(" + e + ") first", new BoxGame().draw(e), 0);
        }
        after(OVER);
        sameGame("a new object beside one whose game is over", x, new BoxGame());
    }

    private static void drawOfNoEdge() {
        for (int e : NOT_EDGES) {
            changesNothingAnywhere("draw(" + e + ")", x -> x.draw(e), NONE);
        }
    }

    private static void drawAtBothEndsOfTheEdges() {
        for (int e : new int[] {0, 5, 6, 11}) {
            BoxGame x = new BoxGame();
            due("draw(" + e + ")", x.draw(e), 0);
            due("free() without " + e, x.free(), 4095 - (1 << e));
            due("turn()", x.turn(), 1);
        }
    }

    private static void drawOfDrawnEdge() {
        for (int[] order : ORDERS) {
            for (int count = 1; count <= 12; count++) {
                int[] draws = first(count, order);
                int oldest = draws[0];
                int newest = draws[count - 1];
                changesNothing("draw(" + oldest + ")", x -> x.draw(oldest), NONE, draws);
                changesNothing("draw(" + newest + ")", x -> x.draw(newest), NONE, draws);
            }
        }
        for (int e = 0; e < 12; e++) {
            int edge = e;
            changesNothing("draw(" + e + ")", x -> x.draw(edge), NONE, OVER);
        }
    }

    private static void drawOfEdgeDrawnByPlayOut() {
        BoxGame x = after(RING_FREE);
        x.playOut(1);
        due("draw(2) after playOut drew it", x.draw(2), NONE);
        due("turn()", x.turn(), 1);
        due("back()", x.back(), 2);
        due("draw(2) when it is free again", x.draw(2), 0);
    }

    private static void backMakesAllAsItWas() {
        for (int[] order : ORDERS) {
            for (int count = 1; count <= 12; count++) {
                BoxGame x = after(first(count, order));
                due("back() after " + count + " draws", x.back(), order[count - 1]);
                sameGame("back() after " + count + " draws", x, after(first(count - 1, order)));
            }
        }
    }

    private static void backSkipsWhatWasTakenBack() {
        BoxGame x = after(3, 8, 5);
        due("back()", x.back(), 5);
        due("back()", x.back(), 8);
        due("draw(11)", x.draw(11), 0);
        due("draw(3), refused", x.draw(3), NONE);
        due("back() after another draw", x.back(), 11);
        due("back() of the first", x.back(), 3);
        due("back() of nothing", x.back(), NONE);
    }

    private static void backOfNothing() {
        changesNothing("back()", BoxGame::back, NONE, NEW);
        changesNothing("back(), refused, twice", x -> x.back() + x.back(), 2 * NONE, NEW);
        for (int[] order : ORDERS) {
            for (int count : new int[] {1, 4, 12}) {
                BoxGame x = after(first(count, order));
                for (int i = count - 1; i >= 0; i--) {
                    due("back() of draw " + i, x.back(), order[i]);
                }
                due("back() after all " + count, x.back(), NONE);
                due("back() once more", x.back(), NONE);
                sameGame("back() refused after all " + count, x, new BoxGame());
            }
        }
        due("back() after a refused draw alone", after(12).back(), NONE);
    }

    private static void restartAnywhere() {
        for (int[] order : ORDERS) {
            for (int count = 0; count <= 12; count++) {
                BoxGame x = after(first(count, order));
                x.restart();
                sameGame("restart() after " + count + " draws", x, new BoxGame());
            }
        }
    }

    private static void turnWhenOver() {
        for (int[] order : ORDERS) {
            changesNothing("turn()", BoxGame::turn, NONE, order);
        }
        BoxGame x = after(OVER);
        x.back();
        due("turn() after back() from the end", x.turn(), 1);
        x.playOut(1);
        due("turn() when playOut ended it", x.turn(), NONE);
        x.restart();
        due("turn() after restart()", x.turn(), 0);
    }

    private static void freeFromAllToNone() {
        due("free() at first", new BoxGame().free(), 4095);
        due("free() when over", after(OVER).free(), 0);
        for (int e = 0; e < 12; e++) {
            due("free() without " + e, after(e).free(), 4095 - (1 << e));
            due("free() with " + e + " alone", allBut(e).free(), 1 << e);
        }
    }

    private static void boxesFromNoneToAll() {
        BoxGame x = after(RING_FREE);
        int[] draws = {2, 7, 3, 10};
        int[] boxes = {0, 1, 2, 4};
        for (int i = 0; i < 4; i++) {
            x.draw(draws[i]);
            due("boxes(1) after draw(" + draws[i] + ")", x.boxes(1), boxes[i]);
            due("boxes(0) after draw(" + draws[i] + ")", x.boxes(0), 0);
        }
        due("boxes(0) of one each", after(THREE_FREE).boxes(0), 1);
        due("boxes(1) of one each", after(THREE_FREE).boxes(1), 1);
    }

    private static void boxesOfNoPlayer() {
        for (int player : NOT_BITS) {
            changesNothingAnywhere("boxes(" + player + ")", x -> x.boxes(player), NONE);
        }
    }

    private static void ownerOfNobodysBox() {
        for (int box = 0; box < 4; box++) {
            int r = box / 2;
            int c = box % 2;
            String call = "owner(" + r + ", " + c + ")";
            changesNothing(call, x -> x.owner(r, c), NONE, NEW);
            changesNothing(call, x -> x.owner(r, c), NONE, RING_FREE);
            due(call + " of one each", after(THREE_FREE).owner(r, c), new int[] {NONE, NONE, 0, 1}[box]);
            due(call + " with edge 7 free", after(ONE_FREE).owner(r, c), r == 0 ? NONE : 1);
            due(call + " when over", after(OVER).owner(r, c), 1);
        }
    }

    private static void ownerOfNoRow() {
        for (int r : NOT_BITS) {
            for (int c : new int[] {0, 1}) {
                changesNothing("owner(" + r + ", " + c + ")", x -> x.owner(r, c), NONE, NEW);
                changesNothing("owner(" + r + ", " + c + ")", x -> x.owner(r, c), NONE, OVER);
            }
        }
    }

    private static void ownerOfNoColumn() {
        for (int c : NOT_BITS) {
            for (int r : new int[] {0, 1}) {
                changesNothing("owner(" + r + ", " + c + ")", x -> x.owner(r, c), NONE, NEW);
                changesNothing("owner(" + r + ", " + c + ")", x -> x.owner(r, c), NONE, OVER);
            }
        }
    }

    private static void ownerOfNoRowAndNoColumn() {
        for (int r : NOT_BITS) {
            for (int c : NOT_BITS) {
                due("owner(" + r + ", " + c + ")", after(OVER).owner(r, c), NONE);
            }
        }
    }

    // ---- Promises 9 to 14

    private static void manyFrom9(String call, ToIntFunction<BoxGame> made) {
        for (int[] draws : MORE_THAN_EIGHT_FREE) {
            changesNothing(call, made, MANY, draws);
        }
        for (int[] order : ORDERS) {
            for (int count = 0; count <= 3; count++) {
                due(call + " after " + count + " draws", made.applyAsInt(after(first(count, order))), MANY);
            }
            BoxGame x = after(first(4, order));
            x.back();
            due(call + " with the ninth taken back", made.applyAsInt(x), MANY);
            x = after(order);
            x.restart();
            due(call + " after restart()", made.applyAsInt(x), MANY);
        }
    }

    /** With eight free edges the answers are those of ../shared/tests for these draws. */
    private static void with8(String call, ToIntFunction<BoxGame> made, int lines, int corners, int middle) {
        changesNothing(call, made, lines, 0, 1, 4, 5);
        changesNothing(call, made, corners, 0, 4, 6, 11);
        changesNothing(call, made, middle, 2, 3, 7, 10);
    }

    private static void valueFrom9To8() {
        manyFrom9("value()", BoxGame::value);
        with8("value()", BoxGame::value, 2, 4, 0);
    }

    private static void worthFrom9To8() {
        for (int e = 0; e < 12; e++) {
            int edge = e;
            manyFrom9("worth(" + e + ")", x -> x.worth(edge));
        }
        // After 2, 3, 7 and 10 the value 0 is the worth of edge 0, the best one.
        changesNothing("worth(0)", x -> x.worth(0), 0, 2, 3, 7, 10);
        changesNothing("worth(10)", x -> x.worth(10), 4, 0, 4, 6, 11);
        changesNothing("worth(1)", x -> x.worth(1), 2, 0, 4, 6, 11);
        changesNothing("worth(11)", x -> x.worth(11), 2, 0, 1, 4, 5);
    }

    private static void worthOfNoEdge() {
        for (int e : NOT_EDGES) {
            changesNothingAnywhere("worth(" + e + ")", x -> x.worth(e), MANY);
        }
    }

    private static void worthOfDrawnEdge() {
        for (int[] draws : AT_MOST_EIGHT_FREE) {
            for (int e : draws) {
                changesNothing("worth(" + e + ")", x -> x.worth(e), MANY, draws);
            }
        }
        for (int e = 0; e < 12; e++) {
            due("worth(" + e + ") when it alone is free", allBut(e).worth(e) > 0 ? 1 : 0, 1);
        }
    }

    private static void bestFrom9To8() {
        manyFrom9("best()", BoxGame::best);
        with8("best()", BoxGame::best, 6, 10, 0);
    }

    private static void bestWhenOver() {
        for (int[] order : ORDERS) {
            changesNothing("best()", BoxGame::best, NONE, order);
        }
    }

    private static void bestIsTheLeast() {
        due("best() of 0 and 11, both best", allBut(0, 11).best(), 0);
        due("best() of 1 and 8, both best, and 0, 2, 4", allBut(0, 1, 2, 4, 8).best(), 1);
        due("best() of 2, 3, 7, 10, all best", after(RING_FREE).best(), 2);
        due("best() of 0 and 7, 7 best", allBut(0, 7).best(), 7);
        for (int e = 0; e < 12; e++) {
            due("best() of " + e + " alone", allBut(e).best(), e);
        }
    }

    private static void bestEdgesFrom9To8() {
        manyFrom9("bestEdges()", BoxGame::bestEdges);
        changesNothing("bestEdges()", BoxGame::bestEdges, 2880, 0, 1, 4, 5);
        changesNothing("bestEdges()", BoxGame::bestEdges, 1024, 0, 4, 6, 11);
    }

    private static void bestEdgesWhenOver() {
        for (int[] order : ORDERS) {
            changesNothing("bestEdges()", BoxGame::bestEdges, 0, order);
        }
    }

    private static void bestEdgesAreAllOfThem() {
        due("bestEdges() of 0 and 11, both best", allBut(0, 11).bestEdges(), 1 + 2048);
        due("bestEdges() of 1 and 8, both best, and 0, 2, 4", allBut(0, 1, 2, 4, 8).bestEdges(), 2 + 256);
        due("bestEdges() of 2, 3, 7, 10, all best", after(RING_FREE).bestEdges(), 4 + 8 + 128 + 1024);
        due("bestEdges() of 0 and 7, 7 best", allBut(0, 7).bestEdges(), 128);
        for (int e = 0; e < 12; e++) {
            due("bestEdges() of " + e + " alone", allBut(e).bestEdges(), 1 << e);
        }
    }

    private static void forecastFrom9To8() {
        manyFrom9("forecast(0)", x -> x.forecast(0));
        manyFrom9("forecast(1)", x -> x.forecast(1));
        // Where the value is v, the one who draws next, here 0, will have 2 + v / 2 boxes of the four.
        with8("forecast(0)", x -> x.forecast(0), 3, 4, 2);
        with8("forecast(1)", x -> x.forecast(1), 1, 0, 2);
    }

    private static void forecastOfNoPlayer() {
        for (int player : NOT_BITS) {
            for (int[] draws : AT_MOST_EIGHT_FREE) {
                changesNothing("forecast(" + player + ")", x -> x.forecast(player), NONE, draws);
            }
        }
    }

    private static void forecastFromNoneToAll() {
        changesNothing("forecast(0)", x -> x.forecast(0), 0, RING_FREE);
        changesNothing("forecast(1)", x -> x.forecast(1), 4, RING_FREE);
        changesNothing("forecast(0)", x -> x.forecast(0), 2, THREE_FREE);
        changesNothing("forecast(1)", x -> x.forecast(1), 2, THREE_FREE);
        changesNothing("forecast(0)", x -> x.forecast(0), 0, ONE_FREE);
        changesNothing("forecast(1)", x -> x.forecast(1), 4, ONE_FREE);
        changesNothing("forecast(0)", x -> x.forecast(0), 0, OVER);
        changesNothing("forecast(1)", x -> x.forecast(1), 4, OVER);
    }

    private static void playOutFrom9To8() {
        for (int n : new int[] {1, 2, 3, 8, 9, 12, MAX}) {
            manyFrom9("playOut(" + n + ")", x -> x.playOut(n));
        }
        BoxGame x = after(EIGHT_FREE);
        due("playOut(1) with eight free", x.playOut(1), 1);
        due("free() without 6", x.free(), 4095 - 1 - 2 - 16 - 32 - 64);
    }

    private static void playOutBelowZero() {
        for (int n : new int[] {-1, MIN, -2, MIN + 1, -32, -256, -65535, MANY}) {
            for (int[] draws : AT_MOST_EIGHT_FREE) {
                changesNothing("playOut(" + n + ")", x -> x.playOut(n), 0, draws);
            }
        }
    }

    private static void playOutOfZero() {
        for (int[] draws : AT_MOST_EIGHT_FREE) {
            changesNothing("playOut(0)", x -> x.playOut(0), 0, draws);
        }
    }

    private static void playOutStopsAtN() {
        for (int[] order : ORDERS) {
            for (int count = 4; count <= 12; count++) {
                for (int n = 1; n <= 12 - count; n++) {
                    playsLikeBest(n, n, first(count, order));
                }
            }
        }
    }

    private static void playOutStopsAtTheEnd() {
        for (int[] draws : AT_MOST_EIGHT_FREE) {
            int left = 12 - draws.length;
            for (int n : new int[] {left, left + 1, 12, 13, 32, 256, 65536, MAX - 1, MAX}) {
                playsLikeBest(n, left, draws);
            }
        }
        changesNothing("playOut(1)", x -> x.playOut(1), 0, OVER);
        changesNothing("playOut(MAX)", x -> x.playOut(MAX), 0, OVER);
    }

    private static void playsLikeBest(int n, int drawn, int... draws) {
        BoxGame x = after(draws);
        BoxGame twin = after(draws);
        String when = "after draws " + Arrays.toString(draws) + " playOut(" + n + ")";
        due(when, x.playOut(n), drawn);
        for (int i = 0; i < drawn; i++) {
            twin.draw(twin.best());
        }
        due(when + ", free edges left", Integer.bitCount(x.free()), 12 - draws.length - drawn);
        sameGame(when, x, twin);
    }

    // ---- Promise 15

    private static void forecastNoneBeforeMany() {
        for (int player : NOT_BITS) {
            for (int[] draws : MORE_THAN_EIGHT_FREE) {
                changesNothing("forecast(" + player + ")", x -> x.forecast(player), NONE, draws);
            }
        }
    }

    private static void restartFreesAllEdges() {
        for (int[] draws : AT_MOST_EIGHT_FREE) {
            BoxGame x = after(draws);
            x.restart();
            due("free()", x.free(), 4095);
            for (int e : draws) {
                due("draw(" + e + ") answers again", x.draw(e) == NONE ? NONE : 0, 0);
            }
        }
    }

    private static void restartTakesAllBoxes() {
        for (int[] draws : AT_MOST_EIGHT_FREE) {
            BoxGame x = after(draws);
            x.restart();
            due("boxes(0)", x.boxes(0), 0);
            due("boxes(1)", x.boxes(1), 0);
            for (int box = 0; box < 4; box++) {
                due("owner of box " + box, x.owner(box / 2, box % 2), NONE);
            }
        }
    }

    private static void restartGivesTheTurnTo0() {
        for (int[] order : ORDERS) {
            for (int count = 0; count <= 12; count++) {
                BoxGame x = after(first(count, order));
                x.restart();
                due("turn() after " + count + " draws and restart()", x.turn(), 0);
                x.draw(3);
                due("turn() after the first draw", x.turn(), 1);
            }
        }
    }

    private static void restartLeavesNothingToTakeBack() {
        for (int[] order : ORDERS) {
            for (int count = 0; count <= 12; count++) {
                BoxGame x = after(first(count, order));
                x.restart();
                due("back() after " + count + " draws and restart()", x.back(), NONE);
                x.draw(9);
                due("back() of the first draw after restart()", x.back(), 9);
                due("back() of no more", x.back(), NONE);
                sameGame("restart() and back()", x, new BoxGame());
            }
        }
        BoxGame x = after(RING_FREE);
        x.playOut(3);
        x.restart();
        due("back() after playOut and restart()", x.back(), NONE);
        sameGame("playOut and restart()", x, new BoxGame());
    }

    private static void playOutManyFirst() {
        for (int n : new int[] {0, -1, MIN, -2, MIN + 1, MANY}) {
            manyFrom9("playOut(" + n + ")", x -> x.playOut(n));
        }
    }

    private static void playOutTakenBack() {
        for (int[] order : ORDERS) {
            for (int count = 4; count <= 12; count++) {
                BoxGame x = after(first(count, order));
                BoxGame twin = after(first(count, order));
                int[] edges = new int[12 - count];
                for (int i = 0; i < edges.length; i++) {
                    edges[i] = twin.best();
                    twin.draw(edges[i]);
                }
                x.playOut(12);
                for (int i = edges.length - 1; i >= 0; i--) {
                    due("back() of playOut's draw " + i + " after " + count + " draws", x.back(), edges[i]);
                    due("free() then", x.free() >> edges[i] & 1, 1);
                }
                sameGame("playOut and back()", x, after(first(count, order)));
            }
        }
    }

    private static void playOutAmongDraws() {
        BoxGame x = after(RING_FREE);
        x.playOut(1);
        x.draw(3);
        x.playOut(1);
        x.draw(10);
        due("turn() when over", x.turn(), NONE);
        // Player 0 drew 2, giving all; player 1 gave up 3, after which 7 is the least edge that takes a box.
        sameGame("playOut, draw, playOut, draw", x, after(0, 1, 4, 5, 6, 8, 9, 11, 2, 3, 7, 10));
        x = after(THREE_FREE);
        x.playOut(1);
        x.draw(0);
        x.playOut(1);
        sameGame("playOut by player 1, draw, playOut", x, after(3, 5, 10, 8, 2, 4, 9, 7, 11, 1, 0, 6));
    }

    private static void manyRefusalsInARow() {
        for (int[] draws : new int[][] {NEW, NINE_FREE, EIGHT_FREE_ONE_BOX, THREE_FREE, OVER}) {
            BoxGame x = after(draws);
            for (int e : NOT_EDGES) {
                x.draw(e);
                x.worth(e);
            }
            for (int e : draws) {
                x.draw(e);
                x.worth(e);
            }
            x.boxes(2);
            x.owner(0, 2);
            x.forecast(-1);
            x.playOut(draws.length < 4 ? 5 : 0);
            if (draws.length == 0) {
                x.back();
            }
            sameGame("refusals after " + Arrays.toString(draws), x, after(draws));
        }
    }

    private static void answersChangeNothing() {
        for (int[] order : ORDERS) {
            for (int count = 0; count <= 12; count++) {
                goesOnUnchanged("all answers after " + count + " draws", x -> seen(x).length, first(count, order));
            }
        }
    }

    private static void terms() {
        holds("What it is, at most 512 calls (draw and back)", BoundaryTest::use512Draws);
        holds("What it is, at most 512 calls (playOut)", BoundaryTest::use512PlayedOut);
        holds("What it is, at most 512 calls (refused)", BoundaryTest::use512Refused);
        holds("What it is, at most 512 calls (restart)", BoundaryTest::use512Restarted);
        holds("Terms, the box has the edges ..", BoundaryTest::edgesOfEachBox);
        holds("Terms, the last free edge", BoundaryTest::threeEdgesAreNoBox);
        holds("Terms, one box, and draws again", BoundaryTest::oneBoxThenAgain);
        holds("Terms, two boxes, and draws again", BoundaryTest::twoBoxesThenAgain);
        holds("Terms, over when no edge is free", BoundaryTest::overWhenNoneIsFree);
        holds("Terms, value 0 when no edge is free", BoundaryTest::valueIsZeroWhenOver);
        holds("Terms, otherwise the greatest worth", BoundaryTest::valueIsGreatestWorth);
        holds("Terms, worth when n is above 0", BoundaryTest::worthWithBoxes);
        holds("Terms, worth when n is 0", BoundaryTest::worthWithoutBoxes);
    }

    private static void promises1To8() {
        holds("P1, all edges are free, player 0 draws next", BoundaryTest::newObject);
        holds("P2, NONE when e is not 0 .. 11", BoundaryTest::drawOfNoEdge);
        holds("P2, 0 .. 11 themselves", BoundaryTest::drawAtBothEndsOfTheEdges);
        holds("P2, NONE when e is drawn", BoundaryTest::drawOfDrawnEdge);
        holds("P2, NONE when playOut drew e", BoundaryTest::drawOfEdgeDrawnByPlayOut);
        holds("P3, everything is as it was before", BoundaryTest::backMakesAllAsItWas);
        holds("P3, the last draw that was not taken back", BoundaryTest::backSkipsWhatWasTakenBack);
        holds("P3, NONE when there is none", BoundaryTest::backOfNothing);
        holds("P4, begins a new game", BoundaryTest::restartAnywhere);
        holds("P5, NONE when the game is over", BoundaryTest::turnWhenOver);
        holds("P6, bit e for edge e", BoundaryTest::freeFromAllToNone);
        holds("P7, the number of boxes", BoundaryTest::boxesFromNoneToAll);
        holds("P7, NONE when player is not 0 or 1", BoundaryTest::boxesOfNoPlayer);
        holds("P8, NONE when nobody has", BoundaryTest::ownerOfNobodysBox);
        holds("P8, NONE when r is not 0 or 1", BoundaryTest::ownerOfNoRow);
        holds("P8, NONE when c is not 0 or 1", BoundaryTest::ownerOfNoColumn);
        holds("P8, NONE when neither is", BoundaryTest::ownerOfNoRowAndNoColumn);
    }

    private static void promises9To14() {
        holds("P9, MANY when more than eight are free", BoundaryTest::valueFrom9To8);
        holds("P10, MANY when more than eight are free", BoundaryTest::worthFrom9To8);
        holds("P10, MANY when e is not 0 .. 11", BoundaryTest::worthOfNoEdge);
        holds("P10, MANY when e is drawn", BoundaryTest::worthOfDrawnEdge);
        holds("P11, MANY when more than eight are free", BoundaryTest::bestFrom9To8);
        holds("P11, NONE when the game is over", BoundaryTest::bestWhenOver);
        holds("P11, with the least number", BoundaryTest::bestIsTheLeast);
        holds("P12, MANY when more than eight are free", BoundaryTest::bestEdgesFrom9To8);
        holds("P12, 0 when the game is over", BoundaryTest::bestEdgesWhenOver);
        holds("P12, the free edges whose worth is the value", BoundaryTest::bestEdgesAreAllOfThem);
        holds("P13, MANY when more than eight are free", BoundaryTest::forecastFrom9To8);
        holds("P13, NONE when player is not 0 or 1", BoundaryTest::forecastOfNoPlayer);
        holds("P13, the number in the end", BoundaryTest::forecastFromNoneToAll);
        holds("P14, MANY, drawing nothing, when more than eight are free", BoundaryTest::playOutFrom9To8);
        holds("P14, n below 0 counts as 0", BoundaryTest::playOutBelowZero);
        holds("P14, n is 0", BoundaryTest::playOutOfZero);
        holds("P14, until n edges were drawn", BoundaryTest::playOutStopsAtN);
        holds("P14, until the game is over", BoundaryTest::playOutStopsAtTheEnd);
    }

    private static void promise15() {
        holds("P15, forecast: NONE before MANY", BoundaryTest::forecastNoneBeforeMany);
        holds("P15, restart: all edges are free", BoundaryTest::restartFreesAllEdges);
        holds("P15, restart: nobody has a box", BoundaryTest::restartTakesAllBoxes);
        holds("P15, restart: player 0 draws next", BoundaryTest::restartGivesTheTurnTo0);
        holds("P15, restart: no draw can be taken back", BoundaryTest::restartLeavesNothingToTakeBack);
        holds("P15, playOut: MANY first, also for n below 1", BoundaryTest::playOutManyFirst);
        holds("P15, playOut: taken back one by one", BoundaryTest::playOutTakenBack);
        holds("P15, playOut: like those of draw", BoundaryTest::playOutAmongDraws);
        holds("P15, a refused call changes nothing", BoundaryTest::manyRefusalsInARow);
        holds("P5 to P13, an answer changes nothing", BoundaryTest::answersChangeNothing);
    }

    public static void main(String[] args) {
        terms();
        promises1To8();
        promises9To14();
        promise15();
        System.out.println(wrong == 0 ? "all answers are as due" : wrong + " answers are not as due");
        if (wrong != 0) {
            System.exit(1);
        }
    }
}
