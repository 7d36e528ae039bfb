import java.util.NoSuchElementException;

/** For each promise of the document: ordinary inputs, the edges it names, and wrong inputs. */
public final class PromiseTest {
    private static final int NONE = DrawBureau.NONE;
    private static int wrong = 0;
    private static int promise = 0;

    private static void due(String what, int got, int want) {
        if (got != want) {
            wrong++;
            System.out.println("promise " + promise + ": " + what + " answered " + got + ", due is " + want);
        }
    }

    private static void due(String what, boolean got, boolean want) {
        due(what, got ? 1 : 0, want ? 1 : 0);
    }

    private interface Call {
        void run();
    }

    private static void dueThrown(String what, Call call, Class<?> want) {
        Class<?> got = null;
        try {
            call.run();
        } catch (RuntimeException e) {
            got = e.getClass();
        }
        if (got != want) {
            wrong++;
            System.out.println("promise " + promise + ": " + what + " threw " + got + ", due is " + want);
        }
    }

    private static void dueGame(DrawBureau x, int round, int i, int home, int away) {
        due("home of game " + i + " of round " + round, x.game(round, i, 0), home);
        due("the other of game " + i + " of round " + round, x.game(round, i, 1), away);
    }

    private static void dueCost(DrawBureau x, int first, int second, int third) {
        due("first cost", x.cost(0), first);
        due("second cost", x.cost(1), second);
        due("third cost", x.cost(2), third);
    }

    private static void dueScores(DrawBureau x, int player, int... want) {
        for (int what = 0; what < want.length; what++) {
            due("score " + player + " " + what, x.score(player, what), want[what]);
        }
    }

    private static void dueStandings(DrawBureau x, int... want) {
        for (int place = 0; place < want.length; place++) {
            due("place " + place, x.standing(place), want[place]);
        }
        due("the place behind the last", x.standing(want.length), NONE);
        due("the place before the first", x.standing(-1), NONE);
    }

    private static void dueNode(DrawBureau x, int round, int i, int first, int second, int winner) {
        String name = "node " + round + " " + i + " ";
        due(name + 0, x.node(round, i, 0), first);
        due(name + 1, x.node(round, i, 1), second);
        due(name + 2, x.node(round, i, 2), winner);
    }

    private static void newObject() {
        DrawBureau x = new DrawBureau();
        due("NONE", DrawBureau.NONE, -1);
        due("game", x.game(0, 0, 0), NONE);
        for (int what = 0; what < 3; what++) {
            due("measure", x.measure(what), NONE);
            due("cost", x.cost(what), 0);
            due("node", x.node(0, 0, what), NONE);
        }
        due("opponent", x.opponent(0, 0), NONE);
        due("colour", x.colour(0, 0), NONE);
        due("out", x.out(0), false);
        due("standing", x.standing(0), NONE);
        due("score", x.score(0, 0), 0);
        due("win", x.win(0, 0, false), false);
        dueThrown("pair", x::pair, IllegalStateException.class);
        dueThrown("book", () -> x.book(0, 0, 0), IllegalArgumentException.class);
        x.table(4, 1);
        dueGame(x, 0, 0, 0, 3);
        due("no twins, no clashes", x.measure(1), 0);
    }

    private static void wishes() {
        DrawBureau x = new DrawBureau();
        due("the same", x.wish(3, 3), false);
        due("below", x.wish(-1, 3), false);
        due("above", x.wish(3, 16), false);
        due("far below", x.wish(Integer.MIN_VALUE, 0), false);
        due("far above", x.wish(0, Integer.MAX_VALUE), false);
        due("ordinary", x.wish(0, 15), true);
        due("taken first", x.wish(0, 1), false);
        due("taken second", x.wish(1, 0), false);
        due("told again", x.wish(0, 15), false);
        due("turned", x.wish(15, 0), false);
        due("twins are not wishes", x.twins(0, 15), true);
        for (int team = 1; team < 15; team += 2) {
            due("couple of " + team, x.wish(team, team + 1), true);
        }
        due("all taken", x.wish(5, 9), false);
        due("rounds", x.table(16, 1), 15);
        dueGame(x, 0, 0, 0, 15);
        dueGame(x, 0, 1, 1, 2);
        dueGame(x, 0, 2, 4, 3);
        dueGame(x, 0, 7, 13, 14);
    }

    private static void twins() {
        DrawBureau x = new DrawBureau();
        due("the same", x.twins(0, 0), false);
        due("below", x.twins(1, -1), false);
        due("above", x.twins(16, 1), false);
        due("ordinary", x.twins(1, 2), true);
        due("taken first", x.twins(1, 3), false);
        due("taken second", x.twins(3, 2), false);
        due("wishes are not twins", x.wish(1, 2), true);
        due("another", x.twins(3, 0), true);
    }

    private static void drop() {
        DrawBureau x = new DrawBureau();
        due("below", x.drop(-1), false);
        due("above", x.drop(2), false);
        due("nothing to drop", x.drop(0), true);
        x.wish(0, 1);
        x.twins(0, 2);
        due("refused", x.drop(7), false);
        due("the wish stays", x.wish(0, 2), false);
        due("the twins stay", x.twins(0, 2), false);
        due("drop of wishes", x.drop(0), true);
        due("the twins still stay", x.twins(0, 1), false);
        due("the wish is gone", x.wish(1, 2), true);
        due("drop of twins", x.drop(1), true);
        due("the new wish stays", x.wish(1, 3), false);
        due("the twins are gone", x.twins(2, 3), true);
        x.table(4, 1);
        dueGame(x, 0, 0, 1, 2);
    }

    private static void table() {
        DrawBureau x = new DrawBureau();
        for (int n = 4; n <= 16; n += 2) {
            due("one half of " + n, x.table(n, 1), n - 1);
            due("two halves of " + n, x.table(n, 2), 2 * n - 2);
        }
        x.table(4, 1);
        int[] wrongNumbers = {Integer.MIN_VALUE, -4, 0, 2, 3, 5, 15, 17, 18, Integer.MAX_VALUE};
        for (int n : wrongNumbers) {
            dueThrown("table of " + n, () -> x.table(n, 1), IllegalArgumentException.class);
        }
        int[] wrongHalves = {Integer.MIN_VALUE, -1, 0, 3, Integer.MAX_VALUE};
        for (int halves : wrongHalves) {
            dueThrown("halves " + halves, () -> x.table(6, halves), IllegalArgumentException.class);
        }
        x.wish(6, 0);
        dueThrown("a wish from n on", () -> x.table(6, 2), IllegalStateException.class);
        dueThrown("the argument counts first", () -> x.table(6, 0), IllegalArgumentException.class);
        due("a refused table changes nothing", x.game(2, 1, 0) != NONE && x.game(3, 0, 0) == NONE, true);
        due("the wish is within", x.table(8, 1), 7);
    }

    private static void game() {
        DrawBureau x = new DrawBureau();
        x.table(4, 2);
        int[][] games = {{0, 3, 1, 2}, {2, 0, 3, 1}, {0, 1, 2, 3}, {3, 0, 2, 1}, {0, 2, 1, 3}, {1, 0, 3, 2}};
        for (int round = 0; round < games.length; round++) {
            dueGame(x, round, 0, games[round][0], games[round][1]);
            dueGame(x, round, 1, games[round][2], games[round][3]);
        }
        dueGame(x, -1, 0, NONE, NONE);
        dueGame(x, 6, 0, NONE, NONE);
        dueGame(x, 0, -1, NONE, NONE);
        dueGame(x, 0, 2, NONE, NONE);
        due("side -1", x.game(0, 0, -1), NONE);
        due("side 2", x.game(0, 0, 2), NONE);
        due("far round", x.game(Integer.MAX_VALUE, 0, 0), NONE);
        due("far game", x.game(0, Integer.MIN_VALUE, 0), NONE);
        x.wish(5, 2);
        x.wish(0, 4);
        dueGame(x, 0, 0, 0, 3);
        x.table(6, 1);
        // Slots: 5 0 1 3 4 2, so that 1 and 3 fill what the wishes leave.
        dueGame(x, 0, 0, 5, 2);
        dueGame(x, 0, 1, 0, 4);
        dueGame(x, 0, 2, 3, 1);
        dueGame(x, 1, 0, 1, 5);
        dueGame(x, 5, 0, NONE, NONE);
    }

    private static void measure() {
        DrawBureau x = new DrawBureau();
        for (int n = 4; n <= 16; n += 2) {
            x.table(n, 2);
            due("breaks of " + n, x.measure(0), n - 2);
            due("least clashes of " + n + " without twins", x.measure(2), n <= 8 ? 0 : NONE);
        }
        due("another what", x.measure(3), NONE);
        due("another what", x.measure(-1), NONE);
        x.table(4, 1);
        // At home: 0 in rounds 0 and 2, 1 in round 0, 2 in rounds 1 and 2, 3 in round 1.
        x.twins(0, 1);
        due("0 and 1", x.measure(1), 1);
        x.twins(2, 3);
        due("2 and 3 too", x.measure(1), 2);
        due("least", x.measure(2), 0);
        x.drop(1);
        x.twins(0, 3);
        due("0 and 3", x.measure(1), 0);
        x.twins(1, 4);
        due("from n on", x.measure(1), 0);
        x.drop(1);
        x.twins(0, 2);
        due("0 and 2", x.measure(1), 1);
        x.table(4, 2);
        due("the second half does not count", x.measure(1), 1);
        x.wish(0, 2);
        due("a wish is for tables to come", x.measure(1), 1);
        x.table(4, 1);
        due("0 and 2 stand where 0 and 3 stood", x.measure(1), 0);
    }

    private static void players() {
        DrawBureau x = new DrawBureau();
        due("1", x.players(1), false);
        due("17", x.players(17), false);
        due("below", x.players(Integer.MIN_VALUE), false);
        due("2", x.players(2), true);
        due("16", x.players(16), true);
        due("the last one is there", x.standing(15), 15);
        x.players(3);
        x.out(0);
        due("games", x.pair(), 1);
        due("refused", x.players(0), false);
        due("a refused call changes nothing", x.opponent(1, 0), 2);
        due("0 stays out", x.out(0), false);
        due("anew", x.players(3), true);
        due("no rounds", x.opponent(1, 0), NONE);
        due("all in", x.out(0), true);
        dueCost(x, 0, 0, 0);
        dueScores(x, 1, 0, 0, 0, 0, 0, 0);
    }

    private static void pair() {
        DrawBureau x = new DrawBureau();
        x.players(4);
        due("games", x.pair(), 2);
        // 0-2 and 1-3 cost as much as 0-3 and 1-2: the lesser opponent of 0 counts.
        due("opponent of 0", x.opponent(0, 0), 2);
        due("opponent of 1", x.opponent(1, 0), 3);
        dueThrown("not booked", x::pair, IllegalStateException.class);
        x.book(0, 1, 2);
        dueThrown("one is not booked", x::pair, IllegalStateException.class);
        x.book(0, 0, 2);
        due("games", x.pair(), 2);
        due("the winners meet", x.opponent(0, 1), 1);
        due("the losers meet", x.opponent(2, 1), 3);
        due("the better of two whites is black", x.colour(0, 1), 0);
        due("the better of two blacks is white", x.colour(2, 1), 1);
        x.book(1, 0, 1);
        x.book(1, 1, 1);
        due("games", x.pair(), 2);
        due("who is left", x.opponent(0, 2), 3);
        x.book(2, 0, 1);
        x.book(2, 1, 1);
        dueThrown("all have met", x::pair, NoSuchElementException.class);
        x.out(1);
        dueThrown("three that have met, with a free round", x::pair, NoSuchElementException.class);
        x.out(2);
        x.out(0);
        dueThrown("one is in", x::pair, IllegalStateException.class);
        due("a refused call changes nothing", x.opponent(0, 3), NONE);

        x.players(3);
        due("one game", x.pair(), 1);
        // 0 or 1 may be free at the same cost: a free round counts as the greatest opponent.
        due("the free round", x.opponent(1, 0), 16);
        x.book(0, 0, 2);
        due("one game", x.pair(), 1);
        // 0 and 2 have met and 1 was free: the cheaper one of 0 free, 2 free.
        due("no second free round", x.opponent(2, 1), 16);
        due("the others meet", x.opponent(0, 1), 1);
        x.book(1, 0, 1);
        due("one game", x.pair(), 1);
        due("the last free round", x.opponent(0, 2), 16);
        x.book(2, 0, 1);
        dueThrown("all had a free round", x::pair, NoSuchElementException.class);
        x.players(16);
        due("eight games", x.pair(), 8);
        x.players(2);
        due("one game", x.pair(), 1);
        dueThrown("not booked counts before no pairing", x::pair, IllegalStateException.class);
    }

    private static void cost() {
        DrawBureau x = new DrawBureau();
        x.players(4);
        dueCost(x, 0, 0, 0);
        x.pair();
        dueCost(x, 0, 0, 28);
        x.book(0, 0, 2);
        x.book(0, 1, 2);
        dueCost(x, 0, 0, 28);
        x.pair();
        // Both pairs are of the same points and of the same need, 3 and -3.
        dueCost(x, 0, 6, 30);
        dueThrown("not booked", x::pair, IllegalStateException.class);
        dueCost(x, 0, 6, 30);
        due("another what", x.cost(3), 0);
        due("another what", x.cost(-1), 0);
        x.players(1);
        dueCost(x, 0, 6, 30);
        x.players(3);
        dueCost(x, 0, 0, 0);
        x.pair();
        // 0 meets 2 (14), 1 is free (1).
        dueCost(x, 0, 0, 15);
    }

    private static void opponent() {
        DrawBureau x = new DrawBureau();
        x.players(5);
        x.out(4);
        x.out(2);
        x.pair();
        due("1 is free", x.opponent(1, 0), 16);
        due("0 meets 3", x.opponent(0, 0), 3);
        due("3 meets 0", x.opponent(3, 0), 0);
        due("out", x.opponent(2, 0), NONE);
        due("out", x.opponent(4, 0), NONE);
        due("no such player", x.opponent(5, 0), NONE);
        due("no such player", x.opponent(-1, 0), NONE);
        due("the free one is no player", x.opponent(16, 0), NONE);
        due("no such round", x.opponent(0, 1), NONE);
        due("no such round", x.opponent(0, -1), NONE);
        x.out(3);
        due("what was stays", x.opponent(3, 0), 0);
    }

    private static void colour() {
        DrawBureau x = new DrawBureau();
        x.players(5);
        x.out(4);
        x.out(2);
        x.pair();
        due("free", x.colour(1, 0), NONE);
        due("the better is white", x.colour(0, 0), 1);
        due("the other is black", x.colour(3, 0), 0);
        due("out", x.colour(4, 0), NONE);
        due("no such player", x.colour(5, 0), NONE);
        due("no such player", x.colour(-1, 0), NONE);
        due("no such round", x.colour(0, 1), NONE);
        due("no such round", x.colour(0, -1), NONE);
        x.book(0, 0, 2);
        x.pair();
        // 0 was white, 1 had no game: 1 has the lesser need.
        due("opponent of 0", x.opponent(0, 1), 1);
        due("the lesser need is white", x.colour(1, 1), 1);
        due("the greater need is black", x.colour(0, 1), 0);
    }

    private static void book() {
        DrawBureau x = new DrawBureau();
        x.players(5);
        dueThrown("no round", () -> x.book(0, 0, 1), IllegalArgumentException.class);
        x.pair();
        dueThrown("round -1", () -> x.book(-1, 0, 1), IllegalArgumentException.class);
        dueThrown("round 1", () -> x.book(1, 0, 1), IllegalArgumentException.class);
        dueThrown("game -1", () -> x.book(0, -1, 1), IllegalArgumentException.class);
        dueThrown("the free round is no game", () -> x.book(0, 2, 1), IllegalArgumentException.class);
        dueThrown("halves -1", () -> x.book(0, 0, -1), IllegalArgumentException.class);
        dueThrown("halves 3", () -> x.book(0, 0, 3), IllegalArgumentException.class);
        dueThrown("far", () -> x.book(Integer.MAX_VALUE, Integer.MIN_VALUE, 1), IllegalArgumentException.class);
        dueThrown("nothing was booked", x::pair, IllegalStateException.class);
        x.book(0, 0, 2);
        due("white won", x.score(0, 0), 2);
        due("black lost", x.score(3, 0), 0);
        x.book(0, 0, 0);
        due("corrected: white lost", x.score(0, 0), 0);
        due("corrected: black won", x.score(3, 0), 2);
        x.book(0, 0, 1);
        due("corrected: drawn", x.score(0, 0), 1);
        due("corrected: drawn", x.score(3, 0), 1);
        due("the other game is not booked", x.score(1, 0), 0);
        x.book(0, 1, 2);
        x.pair();
        x.book(0, 1, 0);
        due("an earlier round corrected", x.score(4, 0) >= 2, true);
    }

    private static void out() {
        DrawBureau x = new DrawBureau();
        x.players(4);
        due("no such player", x.out(4), false);
        due("no such player", x.out(-1), false);
        due("far", x.out(Integer.MAX_VALUE), false);
        due("far, a multiple of 32", x.out(32), false);
        due("goes out", x.out(3), true);
        due("is out", x.out(3), false);
        due("one game of three", x.pair(), 1);
        due("no game for who is out", x.opponent(3, 0), NONE);
        due("goes out", x.out(2), true);
        dueThrown("its game must be booked", x::pair, IllegalStateException.class);
        x.book(0, 0, 1);
        due("one game of two", x.pair(), 1);
        dueStandings(x, 1, 0, 2, 3);
        x.players(4);
        due("in again", x.out(3), true);
    }

    private static DrawBureau fourAfterThreeRounds() {
        DrawBureau x = new DrawBureau();
        x.players(4);
        x.pair(); // 0-2, 1-3; 0 and 1 white
        x.book(0, 0, 2);
        x.book(0, 1, 2);
        x.pair(); // 0-1, 2-3; 1 and 2 white
        x.book(1, 0, 2);
        x.book(1, 1, 2);
        x.pair(); // 0-3, 1-2; 3 and 2 white
        return x;
    }

    private static void standing() {
        DrawBureau x = new DrawBureau();
        x.players(3);
        dueStandings(x, 0, 1, 2);
        x.pair();
        dueStandings(x, 1, 0, 2);
        x.book(0, 0, 0);
        // 1 had the free round, 2 won as black against 0: the sums are 0, the win counts.
        dueStandings(x, 2, 1, 0);

        DrawBureau y = fourAfterThreeRounds();
        // Points 2, 4, 2, 0: of 0 and 2, which are level, 0 won against 2.
        dueStandings(y, 1, 0, 2, 3);
        y.book(0, 0, 0);
        dueStandings(y, 1, 2, 0, 3);
        y.out(1);
        dueStandings(y, 1, 2, 0, 3);

        DrawBureau z = new DrawBureau();
        z.players(6);
        z.pair();
        due("opponents", z.opponent(0, 0) * 100 + z.opponent(1, 0) * 10 + z.opponent(2, 0), 345);
        z.book(0, 0, 2);
        z.book(0, 1, 2);
        z.book(0, 2, 0);
        z.pair();
        // Points 2 2 0 0 0 2 so far; all stands by points, then by sum and number.
        dueStandings(z, 0, 1, 5, 2, 3, 4);
    }

    private static void score() {
        DrawBureau x = fourAfterThreeRounds();
        // Colours: 0 W B B, 1 W W B, 2 B W W, 3 B B W.
        dueScores(x, 0, 2, 2, 6, 0, 1, -3);
        dueScores(x, 1, 4, 0, 2, 0, 2, 1);
        dueScores(x, 2, 2, 0, 2, 0, 1, 3);
        dueScores(x, 3, 0, 0, 6, 0, 0, -1);
        x.book(2, 0, 1);
        // Points 3 4 2 1 now: only 0 and 3 have three games that are booked.
        dueScores(x, 0, 3, 0, 7, 2, 1);
        dueScores(x, 1, 4, 0, 4, 0, 2);
        dueScores(x, 3, 1, 0, 9, 3, 0);
        due("another what", x.score(0, 6), 0);
        due("another what", x.score(0, -1), 0);
        due("no such player", x.score(4, 0), 0);
        due("no such player", x.score(-1, 5), 0);

        DrawBureau y = new DrawBureau();
        y.players(3);
        dueScores(y, 0, 0, 0, 0, 0, 0, 0);
        y.pair();
        dueScores(y, 1, 2, 0, 0, 0, 0, 0);
        dueScores(y, 0, 0, 0, 0, 0, 0, 3);
        dueScores(y, 2, 0, 0, 0, 0, 0, -3);
        y.book(0, 0, 1);
        dueScores(y, 0, 1, 1, 1, 0, 0, 3);
        dueScores(y, 2, 1, 1, 1, 0, 0, -3);
    }

    private static void tree() {
        DrawBureau x = new DrawBureau();
        int[][] rounds = {{2, 1}, {3, 2}, {4, 2}, {5, 3}, {8, 3}, {9, 4}, {16, 4}, {17, 5}, {32, 5}, {33, 6}, {64, 6}};
        for (int[] row : rounds) {
            due("rounds of " + row[0], x.tree(row[0]), row[1]);
        }
        x.win(0, 0, true);
        int[] wrongNumbers = {Integer.MIN_VALUE, -1, 0, 1, 65, Integer.MAX_VALUE};
        for (int n : wrongNumbers) {
            dueThrown("tree of " + n, () -> x.tree(n), IllegalArgumentException.class);
        }
        dueNode(x, 0, 0, 0, 63, 63);
        x.tree(64);
        dueNode(x, 0, 0, 0, 63, NONE);
    }

    private static void node() {
        DrawBureau x = new DrawBureau();
        x.tree(8);
        dueNode(x, 0, 0, 0, 7, NONE);
        dueNode(x, 0, 1, 3, 4, NONE);
        dueNode(x, 0, 2, 1, 6, NONE);
        dueNode(x, 0, 3, 2, 5, NONE);
        dueNode(x, 1, 0, NONE, NONE, NONE);
        dueNode(x, 0, 4, NONE, NONE, NONE);
        dueNode(x, 0, -1, NONE, NONE, NONE);
        dueNode(x, 3, 0, NONE, NONE, NONE);
        dueNode(x, -1, 0, NONE, NONE, NONE);
        dueNode(x, 2, 1, NONE, NONE, NONE);
        dueNode(x, Integer.MAX_VALUE, Integer.MAX_VALUE, NONE, NONE, NONE);
        due("side 3", x.node(0, 0, 3), NONE);
        due("side -1", x.node(0, 0, -1), NONE);
        x.tree(3);
        dueNode(x, 0, 0, 0, NONE, 0);
        dueNode(x, 0, 1, 1, 2, NONE);
        dueNode(x, 1, 0, 0, NONE, NONE);
        x.tree(2);
        dueNode(x, 0, 0, 0, 1, NONE);
        x.tree(33);
        dueNode(x, 0, 0, 0, NONE, 0);
        dueNode(x, 0, 1, 31, 32, NONE);
        dueNode(x, 0, 31, 21, NONE, 21);
        dueNode(x, 1, 15, 10, 21, NONE);
    }

    private static void win() {
        DrawBureau x = new DrawBureau();
        x.tree(8);
        due("not known", x.win(1, 0, false), false);
        due("no such game", x.win(0, 4, false), false);
        due("no such game", x.win(0, -1, false), false);
        due("no such round", x.win(3, 0, false), false);
        due("no such round", x.win(-1, 0, false), false);
        for (int i = 0; i < 4; i++) {
            due("won", x.win(0, i, false), true);
        }
        due("only one is known later", x.win(2, 0, true), false);
        due("won", x.win(1, 0, false), true);
        due("one of both is not known", x.win(2, 0, false), false);
        due("won", x.win(1, 1, true), true);
        due("won", x.win(2, 0, false), true);
        dueNode(x, 2, 0, 0, 2, 0);
        due("won as before", x.win(0, 0, false), true);
        dueNode(x, 2, 0, 0, 2, 0);
        // 3 loses now, but it had won nothing behind that game: 0 stays the winner of the tree.
        due("turned", x.win(0, 1, true), true);
        dueNode(x, 1, 0, 0, 4, 0);
        dueNode(x, 2, 0, 0, 2, 0);
        // 0 loses now, and all that it won behind is no more.
        due("turned", x.win(0, 0, true), true);
        dueNode(x, 1, 0, 7, 4, NONE);
        dueNode(x, 2, 0, NONE, 2, NONE);
        due("won", x.win(1, 0, false), true);
        due("won", x.win(2, 0, true), true);
        // 7 loses now; what 2 won against it is not 7's, so that it stays.
        due("turned", x.win(1, 0, true), true);
        dueNode(x, 2, 0, 4, 2, 2);
        x.tree(3);
        due("against none", x.win(0, 0, false), false);
        due("against none", x.win(0, 0, true), false);
        due("won", x.win(0, 1, true), true);
        due("won", x.win(1, 0, true), true);
        dueNode(x, 1, 0, 0, 2, 2);
    }

    public static void main(String[] args) {
        Call[] tests = {
            PromiseTest::newObject, PromiseTest::wishes, PromiseTest::twins, PromiseTest::drop, PromiseTest::table,
            PromiseTest::game, PromiseTest::measure, PromiseTest::players, PromiseTest::pair, PromiseTest::cost,
            PromiseTest::opponent, PromiseTest::colour, PromiseTest::book, PromiseTest::out, PromiseTest::standing,
            PromiseTest::score, PromiseTest::tree, PromiseTest::node, PromiseTest::win,
        };
        for (Call test : tests) {
            promise++;
            test.run();
        }
        System.out.println(wrong == 0 ? "all promises hold" : wrong + " answers are not as due");
        if (wrong != 0) {
            System.exit(1);
        }
    }
}
