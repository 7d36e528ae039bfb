/** The edges of a whole object: a new one, one whose calls are refused, one at its last call. */
public final class ObjectEdgeTest extends Edges {
    /** An object with a table, twins, a wish, a round that is booked, one that is in part, and a tree. */
    private static DrawBureau inUse() {
        DrawBureau x = new DrawBureau();
        x.wish(2, 0);
        x.twins(0, 1);
        x.table(4, 2);
        x.players(5);
        playRound(x, 0, "21");
        x.out(4);
        x.pair();
        x.book(1, 0, 2);
        x.tree(5);
        x.win(0, 1, true);
        x.win(1, 0, true);
        x.win(1, 1, false);
        return x;
    }

    /** All that can be seen of such an object, and what lies just behind it. */
    private static String seen(DrawBureau x) {
        StringBuilder text = new StringBuilder("table");
        for (int round = 0; round <= 6; round++) {
            for (int i = 0; i <= 2; i++) {
                text.append(' ').append(x.game(round, i, 0)).append('-').append(x.game(round, i, 1));
            }
        }
        text.append(" players");
        for (int player = 0; player < 5; player++) {
            text.append(' ').append(x.standing(player));
            for (int round = 0; round <= 2; round++) {
                text.append(' ').append(x.opponent(player, round)).append('/').append(x.colour(player, round));
            }
            for (int what = 0; what <= 5; what++) {
                text.append(' ').append(x.score(player, what));
            }
        }
        text.append(" tree");
        for (int round = 0; round < 3; round++) {
            for (int i = 0; i < 4 >> round; i++) {
                text.append(' ').append(x.node(round, i, 0)).append('-').append(x.node(round, i, 1));
                text.append('=').append(x.node(round, i, 2));
            }
        }
        text.append(" numbers");
        for (int what = 0; what <= 2; what++) {
            text.append(' ').append(x.measure(what)).append(' ').append(x.cost(what));
        }
        return text.toString();
    }

    private static void nothingChanges(DrawBureau x, Runnable calls) {
        String before = seen(x);
        calls.run();
        due("all that can be seen", seen(x), before);
    }

    // ---- promise 1: a new object

    @Edge(promise = 1, says = "NONE = -1")
    static void none() {
        due("NONE", DrawBureau.NONE, -1);
    }

    @Edge(promise = 1, says = "no table")
    static void newObjectHasNoTable() {
        DrawBureau x = new DrawBureau();
        due("game(0, 0, 0)", x.game(0, 0, 0), NONE);
        due("game(0, 0, 1)", x.game(0, 0, 1), NONE);
        due("measure(0)", x.measure(0), NONE);
        due("measure(1)", x.measure(1), NONE);
        due("measure(2)", x.measure(2), NONE);
    }

    @Edge(promise = 1, says = "no players")
    static void newObjectHasNoPlayers() {
        DrawBureau x = new DrawBureau();
        wrongState("pair()", x::pair);
        wrongArgument("book(0, 0, 1)", () -> x.book(0, 0, 1));
        refused("out(0)", x.out(0));
        due("standing(0)", x.standing(0), NONE);
        due("opponent(0, 0)", x.opponent(0, 0), NONE);
        due("colour(0, 0)", x.colour(0, 0), NONE);
        for (int what = 0; what <= 5; what++) {
            due("score(0, " + what + ")", x.score(0, what), 0);
            due("cost(" + what + ")", x.cost(what), 0);
        }
    }

    @Edge(promise = 1, says = "no tree")
    static void newObjectHasNoTree() {
        DrawBureau x = new DrawBureau();
        due("node(0, 0, 0)", x.node(0, 0, 0), NONE);
        due("node(0, 0, 1)", x.node(0, 0, 1), NONE);
        due("node(0, 0, 2)", x.node(0, 0, 2), NONE);
        refused("win(0, 0, false)", x.win(0, 0, false));
        refused("win(0, 0, true)", x.win(0, 0, true));
    }

    @Edge(promise = 1, says = "no wishes")
    static void newObjectHasNoWishes() {
        DrawBureau x = new DrawBureau();
        due("table(4, 1)", x.table(4, 1), 3);
        due("game(0, 0, 0)", x.game(0, 0, 0), 0);
        due("game(0, 1, 0)", x.game(0, 1, 0), 1);
        for (int team = 0; team < 16; team += 2) {
            taken("wish of " + team, x.wish(team, team + 1));
        }
    }

    @Edge(promise = 1, says = "no twins")
    static void newObjectHasNoTwins() {
        DrawBureau x = new DrawBureau();
        x.table(16, 1);
        due("measure(1)", x.measure(1), 0);
        for (int team = 0; team < 16; team += 2) {
            taken("twins of " + team, x.twins(team, team + 1));
        }
    }

    @Edge(promise = 1, says = "a new object: nothing of another one is in it")
    static void newObjectBesideAnother() {
        DrawBureau other = inUse();
        String before = seen(other);
        DrawBureau x = new DrawBureau();
        due("game(0, 0, 0)", x.game(0, 0, 0), NONE);
        due("standing(0)", x.standing(0), NONE);
        due("node(0, 0, 0)", x.node(0, 0, 0), NONE);
        x.table(16, 2);
        x.players(16);
        x.pair();
        x.tree(64);
        taken("wish(2, 0)", x.wish(2, 0));
        taken("twins(0, 1)", x.twins(0, 1));
        due("the other object", seen(other), before);
    }

    // ---- a refused call changes nothing

    @Edge(promise = 2, says = "a refused call changes nothing: wish")
    static void refusedWish() {
        DrawBureau x = inUse();
        nothingChanges(x, () -> {
            refused("wish(3, 3)", x.wish(3, 3));
            refused("wish(-1, 3)", x.wish(-1, 3));
            refused("wish(3, 16)", x.wish(3, 16));
            refused("wish(2, 3)", x.wish(2, 3));
            refused("wish(1, 0)", x.wish(1, 0));
        });
        x.table(4, 1);
        due("the wish that stands", x.game(0, 0, 0) * 10 + x.game(0, 0, 1), 20);
        due("those without one", x.game(0, 1, 0) * 10 + x.game(0, 1, 1), 13);
        taken("wish(3, 1), still free", x.wish(3, 1));
        x.table(4, 1);
        due("the second wish", x.game(0, 1, 0) * 10 + x.game(0, 1, 1), 31);
    }

    @Edge(promise = 3, says = "a refused call changes nothing: twins")
    static void refusedTwins() {
        DrawBureau x = inUse();
        nothingChanges(x, () -> {
            refused("twins(3, 3)", x.twins(3, 3));
            refused("twins(-1, 3)", x.twins(-1, 3));
            refused("twins(3, 16)", x.twins(3, 16));
            refused("twins(0, 3)", x.twins(0, 3));
            refused("twins(2, 1)", x.twins(2, 1));
        });
        taken("twins(3, 2), still free", x.twins(3, 2));
    }

    @Edge(promise = 4, says = "a refused call changes nothing: drop")
    static void refusedDrop() {
        DrawBureau x = inUse();
        nothingChanges(x, () -> {
            refused("drop(-1)", x.drop(-1));
            refused("drop(2)", x.drop(2));
        });
        refused("wish(2, 3), taken as before", x.wish(2, 3));
        refused("twins(0, 3), taken as before", x.twins(0, 3));
    }

    @Edge(promise = 5, says = "a refused call changes nothing: table")
    static void refusedTable() {
        DrawBureau x = inUse();
        x.wish(1, 5);
        nothingChanges(x, () -> {
            wrongArgument("table(2, 1)", () -> x.table(2, 1));
            wrongArgument("table(18, 1)", () -> x.table(18, 1));
            wrongArgument("table(7, 1)", () -> x.table(7, 1));
            wrongArgument("table(8, 0)", () -> x.table(8, 0));
            wrongArgument("table(8, 3)", () -> x.table(8, 3));
            wrongState("table(4, 1)", () -> x.table(4, 1));
        });
        due("table(6, 1)", x.table(6, 1), 5);
        due("the wish made last", x.game(0, 1, 0) * 10 + x.game(0, 1, 1), 15);
    }

    @Edge(promise = 8, says = "a refused call changes nothing: players")
    static void refusedPlayers() {
        DrawBureau x = inUse();
        nothingChanges(x, () -> {
            refused("players(1)", x.players(1));
            refused("players(17)", x.players(17));
        });
        refused("out(4), out as before", x.out(4));
        wrongState("pair(), not booked as before", x::pair);
    }

    @Edge(promise = 9, says = "a refused call changes nothing: pair, a game is not booked")
    static void refusedPairNotBooked() {
        DrawBureau x = inUse();
        nothingChanges(x, () -> wrongState("pair()", x::pair));
        x.book(1, 1, 1);
        due("pair()", x.pair(), 2);
    }

    @Edge(promise = 9, says = "a refused call changes nothing: pair, fewer than two are in")
    static void refusedPairOfOne() {
        DrawBureau x = inUse();
        x.book(1, 1, 1);
        x.out(0);
        x.out(1);
        x.out(2);
        nothingChanges(x, () -> wrongState("pair()", x::pair));
    }

    @Edge(promise = 9, says = "a refused call changes nothing: pair, there is no such pairing")
    static void refusedPairOfThoseThatMet() {
        DrawBureau x = inUse();
        x.book(1, 1, 1);
        int opponent = x.opponent(0, 1);
        for (int player = 1; player < 4; player++) {
            if (player != opponent) {
                x.out(player);
            }
        }
        nothingChanges(x, () -> noElement("pair()", x::pair));
        x.out(0);
        wrongState("pair() of one", x::pair);
    }

    @Edge(promise = 13, says = "a refused call changes nothing: book")
    static void refusedBook() {
        DrawBureau x = inUse();
        nothingChanges(x, () -> {
            wrongArgument("book(-1, 0, 0)", () -> x.book(-1, 0, 0));
            wrongArgument("book(2, 0, 0)", () -> x.book(2, 0, 0));
            wrongArgument("book(0, -1, 0)", () -> x.book(0, -1, 0));
            wrongArgument("book(0, 2, 0)", () -> x.book(0, 2, 0));
            wrongArgument("book(0, 0, -1)", () -> x.book(0, 0, -1));
            wrongArgument("book(0, 0, 3)", () -> x.book(0, 0, 3));
            wrongArgument("book(1, 1, 3)", () -> x.book(1, 1, 3));
        });
        wrongState("pair(), not booked as before", x::pair);
    }

    @Edge(promise = 14, says = "a refused call changes nothing: out")
    static void refusedOut() {
        DrawBureau x = inUse();
        nothingChanges(x, () -> {
            refused("out(-1)", x.out(-1));
            refused("out(5)", x.out(5));
            refused("out(4)", x.out(4));
        });
        x.book(1, 1, 1);
        due("pair(), four are in as before", x.pair(), 2);
    }

    @Edge(promise = 17, says = "a refused call changes nothing: tree")
    static void refusedTree() {
        DrawBureau x = inUse();
        nothingChanges(x, () -> {
            wrongArgument("tree(1)", () -> x.tree(1));
            wrongArgument("tree(65)", () -> x.tree(65));
        });
        taken("win(2, 0, true)", x.win(2, 0, true));
    }

    @Edge(promise = 19, says = "a refused call changes nothing: win")
    static void refusedWin() {
        DrawBureau x = inUse();
        nothingChanges(x, () -> {
            refused("win(-1, 0, true)", x.win(-1, 0, true));
            refused("win(3, 0, true)", x.win(3, 0, true));
            refused("win(0, -1, true)", x.win(0, -1, true));
            refused("win(0, 4, true)", x.win(0, 4, true));
            refused("win(1, 2, true)", x.win(1, 2, true));
            refused("win(0, 0, true), against none", x.win(0, 0, true));
            refused("win(0, 0, false), against none", x.win(0, 0, false));
        });
    }

    @Edge(promise = 19, says = "a refused call changes nothing: win, one of its players is not known")
    static void refusedWinNotKnown() {
        DrawBureau x = inUse();
        x.tree(5);
        nothingChanges(x, () -> {
            refused("win(1, 0, false)", x.win(1, 0, false));
            refused("win(1, 0, true)", x.win(1, 0, true));
            refused("win(2, 0, false)", x.win(2, 0, false));
        });
    }

    // ---- each part is for itself

    @Edge(promise = 5, says = "a table leaves the players and the tree alone")
    static void tableLeavesTheRest() {
        DrawBureau x = inUse();
        String before = seen(x);
        x.table(16, 1);
        x.table(4, 2);
        due("all that can be seen", seen(x), before);
    }

    @Edge(promise = 8, says = "players leave the table, the wishes, the twins and the tree alone")
    static void playersLeaveTheRest() {
        DrawBureau x = inUse();
        x.players(16);
        due("game(0, 0, 0)", x.game(0, 0, 0), 2);
        due("node(1, 0, 2)", x.node(1, 0, 2), 4);
        refused("wish(2, 3)", x.wish(2, 3));
        refused("twins(0, 3)", x.twins(0, 3));
    }

    @Edge(promise = 17, says = "a tree leaves the table and the players alone")
    static void treeLeavesTheRest() {
        DrawBureau x = inUse();
        x.tree(64);
        due("game(0, 0, 0)", x.game(0, 0, 0), 2);
        due("opponent(0, 0)", x.opponent(0, 0), 3);
        due("score(2, 0)", x.score(2, 0), 4);
    }

    // ---- at most 512 calls

    @Edge(promise = 5, says = "at most 512 calls: all of them tables and games")
    static void manyTables() {
        DrawBureau x = new DrawBureau();
        for (int call = 0; call < 512; call += 2) {
            due("table(16, 2) at call " + call, x.table(16, 2), 30);
            due("game(29, 7, 0) at call " + (call + 1), x.game(29, 7, 0), 15);
        }
    }

    @Edge(promise = 9, says = "at most 512 calls: all of them players and pairings")
    static void manyPairings() {
        DrawBureau x = new DrawBureau();
        for (int call = 0; call < 512; call += 2) {
            taken("players(16) at call " + call, x.players(16));
            due("pair() at call " + (call + 1), x.pair(), 8);
        }
    }

    @Edge(promise = 13, says = "at most 512 calls: all of them corrections")
    static void manyCorrections() {
        DrawBureau x = new DrawBureau();
        x.players(2);
        x.pair();
        for (int call = 2; call < 512; call += 2) {
            int halves = call / 2 % 3;
            x.book(0, 0, halves);
            due("points at call " + (call + 1), x.score(0, 0), halves);
        }
    }

    @Edge(promise = 19, says = "at most 512 calls: all of them wins")
    static void manyWins() {
        DrawBureau x = new DrawBureau();
        x.tree(64);
        for (int call = 1; call < 511; call += 2) {
            boolean second = call % 4 == 1;
            taken("win at call " + call, x.win(0, 0, second));
            due("winner at call " + (call + 1), x.node(0, 0, 2), second ? 63 : 0);
        }
        due("the 512th call", x.node(1, 0, 0), 63);
    }

    public static void main(String[] args) {
        run(ObjectEdgeTest.class, 1, 1);
    }
}
