/**
 * Each promise by itself, with answers worked out by hand from the document; those with six or more
 * edges free, too many to work out so, are the ones that ../shared/tests gives for these positions.
 */
public final class PromisesTest {
    private static final int MAX = Integer.MAX_VALUE;
    private static final int MIN = Integer.MIN_VALUE;
    private static final int[] NOT_EDGES = {-1, 12, 13, 32, 44, -32, 31, MAX, MIN};
    private static final int[] NOT_PLAYERS = {-1, 2, 3, -100, MAX, MIN};
    private static int wrong = 0;

    private static void due(String call, int got, int want) {
        if (got != want) {
            wrong++;
            System.out.println(call + " answered " + got + ", due is " + want);
        }
    }

    private static BoxGame drawn(int... edges) {
        BoxGame x = new BoxGame();
        for (int e : edges) {
            x.draw(e);
        }
        return x;
    }

    private static void isNew(String when, BoxGame x) {
        due(when + " free()", x.free(), 4095);
        due(when + " turn()", x.turn(), 0);
        due(when + " boxes(0)", x.boxes(0), 0);
        due(when + " boxes(1)", x.boxes(1), 0);
        for (int box = 0; box < 4; box++) {
            due(when + " owner(" + box / 2 + ", " + box % 2 + ")", x.owner(box / 2, box % 2), -1);
        }
        due(when + " value()", x.value(), -100);
        due(when + " back()", x.back(), -1);
    }

    private static void p1NewObject() {
        isNew("P1 new", new BoxGame());
        BoxGame x = new BoxGame();
        BoxGame y = new BoxGame();
        x.draw(3);
        due("P1 other object free()", y.free(), 4095);
    }

    private static void p2Draw() {
        BoxGame x = new BoxGame();
        for (int e : new int[] {0, 2, 6}) {
            due("P2 draw(" + e + ")", x.draw(e), 0);
        }
        due("P2 draw(6) again", x.draw(6), -1);
        for (int e : NOT_EDGES) {
            due("P2 draw(" + e + ")", x.draw(e), -1);
            due("P2 turn() after refused", x.turn(), 1);
            due("P2 free() after refused", x.free(), 4095 - 1 - 4 - 64);
        }
        due("P2 draw(7) completes box 0 0", x.draw(7), 1);
        due("P2 turn() after a box", x.turn(), 1);
        due("P2 draw(1)", x.draw(1), 0);
        due("P2 draw(3)", x.draw(3), 0);
        due("P2 draw(8) completes box 0 1", x.draw(8), 1);
        due("P2 boxes(1)", x.boxes(1), 2);
        due("P2 boxes(0)", x.boxes(0), 0);

        due("P2 two boxes by edge 7", drawn(0, 2, 6, 1, 3, 8).draw(7), 2);
        due("P2 two boxes by edge 10", drawn(2, 4, 9, 3, 5, 11).draw(10), 2);
        due("P2 two boxes by edge 2", drawn(0, 6, 7, 4, 9, 10).draw(2), 2);
        due("P2 two boxes by edge 3", drawn(1, 7, 8, 5, 10, 11).draw(3), 2);
    }

    private static void p3Back() {
        BoxGame x = drawn(0, 2, 6, 1, 3, 8);
        due("P3 turn() before two boxes", x.turn(), 0);
        x.draw(7);
        x.draw(4);
        due("P3 turn() after edge 4", x.turn(), 1);
        due("P3 refused draw", x.draw(7), -1);
        due("P3 back() edge 4", x.back(), 4);
        due("P3 turn() back at 0", x.turn(), 0);
        due("P3 boxes(0) keeps two", x.boxes(0), 2);
        due("P3 owner(0, 0) keeps", x.owner(0, 0), 0);
        due("P3 back() edge 7", x.back(), 7);
        due("P3 turn()", x.turn(), 0);
        due("P3 boxes(0) lost two", x.boxes(0), 0);
        due("P3 owner(0, 0)", x.owner(0, 0), -1);
        due("P3 owner(0, 1)", x.owner(0, 1), -1);
        due("P3 draw(7) again", x.draw(7), 2);
        for (int e : new int[] {7, 8, 3, 1, 6, 2, 0}) {
            due("P3 back()", x.back(), e);
        }
        isNew("P3 all taken back", x);
        due("P3 back() on nothing again", x.back(), -1);
    }

    private static void p4Restart() {
        BoxGame x = drawn(0, 2, 6, 1, 3, 8, 7, 4);
        x.restart();
        isNew("P4 restarted", x);
        x.restart();
        isNew("P4 restarted twice", x);
        x = drawn(0, 1, 2, 3, 4, 5, 6, 7, 8, 9, 10, 11);
        x.restart();
        isNew("P4 restarted after the end", x);
        for (int e = 0; e < 12; e++) {
            x.draw(e);
        }
        due("P4 a whole second game", x.free(), 0);
    }

    private static void p5Turn() {
        BoxGame x = new BoxGame();
        due("P5 turn() at first", x.turn(), 0);
        x.draw(0);
        due("P5 turn() after one", x.turn(), 1);
        x.draw(5);
        due("P5 turn() after two", x.turn(), 0);
        x = drawn(0, 1, 2, 3, 4, 5, 6);
        due("P5 turn() after seven without a box", x.turn(), 1);
        x.draw(7);
        due("P5 turn() stays after a box", x.turn(), 1);
        x.draw(8);
        x.draw(9);
        x.draw(10);
        due("P5 turn() before the last edge", x.turn(), 0);
        x.draw(11);
        due("P5 turn() when over", x.turn(), -1);
        x.back();
        due("P5 turn() when no longer over", x.turn(), 0);
    }

    private static void p6Free() {
        BoxGame x = new BoxGame();
        int want = 4095;
        for (int e : new int[] {11, 0, 5, 6, 10, 1, 9, 2, 8, 3, 7, 4}) {
            due("P6 free()", x.free(), want);
            x.draw(e);
            want -= 1 << e;
        }
        due("P6 free() when over", x.free(), 0);
    }

    private static void p7Boxes() {
        BoxGame x = drawn(0, 2, 6, 7);
        due("P7 boxes(1)", x.boxes(1), 1);
        due("P7 boxes(0)", x.boxes(0), 0);
        for (int player : NOT_PLAYERS) {
            due("P7 boxes(" + player + ")", x.boxes(player), -1);
            due("P7 boxes(" + player + ") on a new object", new BoxGame().boxes(player), -1);
        }
    }

    private static void p8Owner() {
        int[][] edges = {{0, 2, 6, 7}, {1, 3, 7, 8}, {2, 4, 9, 10}, {3, 5, 10, 11}};
        for (int box = 0; box < 4; box++) {
            BoxGame x = drawn(edges[box]);
            for (int other = 0; other < 4; other++) {
                due("P8 owner of box " + other, x.owner(other / 2, other % 2), other == box ? 1 : -1);
            }
        }
        BoxGame x = drawn(0, 2, 6, 1, 7, 3, 8);
        due("P8 box 0 0 goes to player 0", x.owner(0, 0), 0);
        x = drawn(0, 1, 2, 3, 4, 5, 6, 7, 8, 9, 10, 11);
        for (int bad : NOT_PLAYERS) {
            due("P8 owner(" + bad + ", 0)", x.owner(bad, 0), -1);
            due("P8 owner(0, " + bad + ")", x.owner(0, bad), -1);
            due("P8 owner(1, " + bad + ")", x.owner(1, bad), -1);
            due("P8 owner(" + bad + ", 1)", x.owner(bad, 1), -1);
            due("P8 owner(" + bad + ", " + bad + ")", x.owner(bad, bad), -1);
        }
        due("P8 owner(-1, 2)", x.owner(-1, 2), -1);
        due("P8 owner(1, -2)", x.owner(1, -2), -1);
    }

    /** A game in which just the given edges are free, the others drawn from 0 up. */
    private static BoxGame allBut(int... free) {
        BoxGame x = new BoxGame();
        for (int e = 0; e < 12; e++) {
            boolean keep = false;
            for (int f : free) {
                keep |= f == e;
            }
            if (!keep) {
                x.draw(e);
            }
        }
        return x;
    }

    private static void p9Value() {
        due("P9 over", allBut().value(), 0);
        due("P9 one box left", allBut(0).value(), 1);
        due("P9 one edge, two boxes left", allBut(7).value(), 2);
        due("P9 two boxes one after the other", allBut(0, 1).value(), 2);
        due("P9 both edges of one box", allBut(0, 6).value(), -1);
        due("P9 a box, then a box to give", allBut(0, 1, 6).value(), 0);
        due("P9 two boxes of two edges", allBut(0, 6, 5, 11).value(), 0);
        BoxGame x = drawn(0, 1, 4);
        due("P9 nine free", x.value(), -100);
        x.draw(5);
        due("P9 eight free", x.value(), 2);
        x.back();
        due("P9 nine free again", x.value(), -100);
    }

    private static void p10Worth() {
        BoxGame x = allBut(0, 1, 6);
        due("P10 worth(1) takes, then gives", x.worth(1), 0);
        due("P10 worth(0) gives two", x.worth(0), -2);
        due("P10 worth(6) gives two", x.worth(6), -2);
        due("P10 worth(7) drawn", x.worth(7), -100);
        for (int e : NOT_EDGES) {
            due("P10 worth(" + e + ")", x.worth(e), -100);
        }
        due("P10 worth(7) last edge of two", allBut(7).worth(7), 2);
        due("P10 worth(0) when over", allBut().worth(0), -100);
        due("P10 nine free", drawn(0, 1, 4).worth(5), -100);
        due("P10 nine free, not an edge", drawn(0, 1, 4).worth(12), -100);
        x = drawn(0, 1, 4, 5, 6, 8);
        due("P10 worth(9)", x.worth(9), -4);
        due("P10 worth(7)", x.worth(7), 0);
    }

    private static void p11Best() {
        due("P11 over", allBut().best(), -1);
        due("P11 least of two equal", allBut(0, 6).best(), 0);
        due("P11 least of two equal boxes", allBut(1, 5).best(), 1);
        due("P11 not the least free edge", allBut(0, 1, 6).best(), 1);
        due("P11 nine free", drawn(0, 1, 4).best(), -100);
        due("P11 eight free", drawn(0, 1, 4, 5).best(), 6);
    }

    private static void p12BestEdges() {
        due("P12 over", allBut().bestEdges(), 0);
        due("P12 two equal", allBut(0, 6).bestEdges(), 1 + 64);
        due("P12 one of three", allBut(0, 1, 6).bestEdges(), 2);
        due("P12 edge 11", allBut(11).bestEdges(), 2048);
        due("P12 nine free", drawn(0, 1, 4).bestEdges(), -100);
        due("P12 eight free", drawn(0, 1, 4, 5).bestEdges(), 64 + 256 + 512 + 2048);
    }

    private static void p13Forecast() {
        // Player 0 takes box 1 0, then player 1 box 1 1; next edge 1 is taken, and box 0 0 given away.
        BoxGame x = drawn(3, 5, 10, 8, 2, 4, 9, 7);
        due("P13 turn() there", x.turn(), 1);
        due("P13 boxes(0) there", x.boxes(0), 1);
        due("P13 boxes(1) there", x.boxes(1), 0);
        x.draw(11);
        due("P13 free() there", x.free(), 1 + 2 + 64);
        due("P13 boxes(1) then", x.boxes(1), 1);
        due("P13 forecast(1)", x.forecast(1), 2);
        due("P13 forecast(0)", x.forecast(0), 2);
        due("P13 it draws nothing", x.free(), 1 + 2 + 64);
        due("P13 it keeps the turn", x.turn(), 1);
        due("P13 it gives no box", x.boxes(1), 1);
        x.playOut(12);
        due("P13 forecast(0) when over", x.forecast(0), 2);
        for (int player : NOT_PLAYERS) {
            due("P13 forecast(" + player + ")", x.forecast(player), -1);
        }
        due("P13 nine free", drawn(0, 1, 4).forecast(0), -100);
        due("P13 nine free, player 1", drawn(0, 1, 4).forecast(1), -100);
        due("P13 eight free", drawn(0, 1, 4, 5).forecast(0), 3);
    }

    private static void p14PlayOut() {
        BoxGame x = allBut(0, 1, 6);
        int first = x.turn();
        due("P14 playOut(0)", x.playOut(0), 0);
        due("P14 playOut(-1)", x.playOut(-1), 0);
        due("P14 playOut(MIN)", x.playOut(MIN), 0);
        due("P14 nothing drawn", x.free(), 1 + 2 + 64);
        due("P14 playOut(1)", x.playOut(1), 1);
        due("P14 edge 1 was drawn", x.free(), 1 + 64);
        due("P14 its box", x.owner(0, 1), first);
        due("P14 the same player again", x.turn(), first);
        due("P14 playOut(MAX)", x.playOut(MAX), 2);
        due("P14 over", x.turn(), -1);
        due("P14 the other gets box 0 0", x.owner(0, 0), 1 - first);
        due("P14 playOut(5) when over", x.playOut(5), 0);
        x = drawn(0, 1, 4);
        due("P14 nine free", x.playOut(3), -100);
        due("P14 nine free, nothing drawn", x.free(), 4095 - 1 - 2 - 16);
        x.draw(5);
        due("P14 eight free", x.playOut(8), 8);
    }

    private static void p15OrderAndLimits() {
        for (int player : NOT_PLAYERS) {
            due("P15 NONE before MANY, forecast(" + player + ")", new BoxGame().forecast(player), -1);
        }
        for (int n : new int[] {0, -1, MIN, 1, MAX}) {
            due("P15 MANY first, playOut(" + n + ")", new BoxGame().playOut(n), -100);
        }
        BoxGame x = allBut(0, 1, 6);
        int first = x.turn();
        x.playOut(3);
        due("P15 back() takes playOut's third", x.back(), 6);
        due("P15 box 0 0 is nobody's", x.owner(0, 0), -1);
        due("P15 back() takes playOut's second", x.back(), 0);
        due("P15 turn() is the first's", x.turn(), first);
        due("P15 back() takes playOut's first", x.back(), 1);
        due("P15 turn() is still the first's", x.turn(), first);
        due("P15 free() as before", x.free(), 1 + 2 + 64);
        due("P15 back() takes draw's last", x.back(), 11);
        x.playOut(12);
        x.restart();
        isNew("P15 restarted after playOut", x);
        refusedCallsChangeNothing();
    }

    private static void refusedCallsChangeNothing() {
        BoxGame x = drawn(0, 2, 6);
        x.draw(0);
        x.draw(12);
        x.boxes(2);
        x.owner(2, 0);
        x.value();
        x.worth(1);
        x.best();
        x.bestEdges();
        x.forecast(0);
        x.forecast(2);
        x.playOut(5);
        due("P15 free() after refusals", x.free(), 4095 - 1 - 4 - 64);
        due("P15 turn() after refusals", x.turn(), 1);
        due("P15 back() after refusals", x.back(), 6);
        due("P15 back() after refusals", x.back(), 2);
        due("P15 back() after refusals", x.back(), 0);
        due("P15 back() on nothing", x.back(), -1);
        isNew("P15 after refused back()", x);
    }

    public static void main(String[] args) {
        p1NewObject();
        p2Draw();
        p3Back();
        p4Restart();
        p5Turn();
        p6Free();
        p7Boxes();
        p8Owner();
        p9Value();
        p10Worth();
        p11Best();
        p12BestEdges();
        p13Forecast();
        p14PlayOut();
        p15OrderAndLimits();
        System.out.println(wrong == 0 ? "all answers are as due" : wrong + " answers are not as due");
        if (wrong != 0) {
            System.exit(1);
        }
    }
}
