/** The edges of trees: promises 17 to 19. */
public final class TreeEdgeTest extends Edges {
    private static DrawBureau treeOf(int n) {
        DrawBureau x = new DrawBureau();
        x.tree(n);
        return x;
    }

    private static void dueNode(DrawBureau x, int round, int i, int first, int second, int winner) {
        String call = "node(" + round + ", " + i + ", ";
        due(call + "0)", x.node(round, i, 0), first);
        due(call + "1)", x.node(round, i, 1), second);
        due(call + "2)", x.node(round, i, 2), winner);
    }

    private static void noNode(DrawBureau x, int round, int i) {
        dueNode(x, round, i, NONE, NONE, NONE);
    }

    private static void won(DrawBureau x, int round, int i, boolean second) {
        taken("win(" + round + ", " + i + ", " + second + ")", x.win(round, i, second));
    }

    private static void notWon(DrawBureau x, int round, int i) {
        refused("win(" + round + ", " + i + ", false)", x.win(round, i, false));
        refused("win(" + round + ", " + i + ", true)", x.win(round, i, true));
    }

    private static DrawBureau wonByFirstSides(int rounds) {
        return wonBySides(rounds, false);
    }

    /** A tree of a power of two in which the first side, or the second, won each game. */
    private static DrawBureau wonBySides(int rounds, boolean second) {
        DrawBureau x = treeOf(1 << rounds);
        for (int round = 0; round < rounds; round++) {
            for (int i = 0; i < 1 << (rounds - 1 - round); i++) {
                x.win(round, i, second);
            }
        }
        return x;
    }

    // ---- promise 17: tree

    @Edge(promise = 17, says = "n is not 2 .. 64: too small")
    static void treeOfTooFew() {
        DrawBureau x = new DrawBureau();
        for (int n : new int[] {1, 0, -1, -2, -64, MIN}) {
            wrongArgument("tree(" + n + ")", () -> x.tree(n));
            noNode(x, 0, 0);
        }
        due("tree(2)", x.tree(2), 1);
    }

    @Edge(promise = 17, says = "n is not 2 .. 64: too large")
    static void treeOfTooMany() {
        DrawBureau x = new DrawBureau();
        for (int n : new int[] {65, 66, 128, 65536 + 2, MAX}) {
            wrongArgument("tree(" + n + ")", () -> x.tree(n));
            noNode(x, 0, 0);
        }
        due("tree(64)", x.tree(64), 6);
    }

    @Edge(promise = 17, says = "the least power of two 2^t that is not below n: a power, and one more")
    static void treeOfAPower() {
        DrawBureau x = new DrawBureau();
        for (int rounds = 1; rounds <= 6; rounds++) {
            int power = 1 << rounds;
            due("tree(" + power + ")", x.tree(power), rounds);
            if (rounds < 6) {
                due("tree(" + (power + 1) + ")", x.tree(power + 1), rounds + 1);
            }
        }
    }

    @Edge(promise = 17, says = "the least power of two 2^t that is not below n: one less than a power")
    static void treeOfOneLessThanAPower() {
        DrawBureau x = new DrawBureau();
        for (int rounds = 2; rounds <= 6; rounds++) {
            int n = (1 << rounds) - 1;
            due("tree(" + n + ")", x.tree(n), rounds);
        }
    }

    @Edge(promise = 17, says = "a tree: the one before is no more, with all that was won")
    static void treeAnew() {
        DrawBureau x = wonByFirstSides(3);
        dueNode(x, 2, 0, 0, 1, 0);
        due("tree(8)", x.tree(8), 3);
        dueNode(x, 0, 0, 0, 7, NONE);
        noNode(x, 1, 0);
        noNode(x, 2, 0);
    }

    @Edge(promise = 17, says = "a tree: the one before is no more, a smaller one either")
    static void treeAfterALargerOne() {
        DrawBureau x = wonByFirstSides(6);
        due("tree(2)", x.tree(2), 1);
        dueNode(x, 0, 0, 0, 1, NONE);
        noNode(x, 0, 1);
        noNode(x, 1, 0);
        noNode(x, 5, 0);
    }

    @Edge(promise = 17, says = "a tree: the one before is no more, a larger one either")
    static void treeAfterASmallerOne() {
        DrawBureau x = treeOf(3);
        x.win(0, 1, true);
        x.win(1, 0, true);
        due("tree(64)", x.tree(64), 6);
        dueNode(x, 0, 0, 0, 63, NONE);
        dueNode(x, 0, 1, 31, 32, NONE);
        dueNode(x, 0, 31, 21, 42, NONE);
        noNode(x, 1, 0);
        noNode(x, 5, 0);
    }

    // ---- promise 18: node

    @Edge(promise = 18, says = "no such game: no tree")
    static void nodeWithoutATree() {
        noNode(new DrawBureau(), 0, 0);
    }

    @Edge(promise = 18, says = "no such game: a round too small")
    static void nodeBeforeTheFirstRound() {
        DrawBureau x = wonByFirstSides(2);
        noNode(x, -1, 0);
        noNode(x, MIN, 0);
        dueNode(x, 0, 0, 0, 3, 0);
    }

    @Edge(promise = 18, says = "no such game: a round too large")
    static void nodeBehindTheLastRound() {
        DrawBureau least = wonByFirstSides(1);
        dueNode(least, 0, 0, 0, 1, 0);
        noNode(least, 1, 0);
        DrawBureau most = wonByFirstSides(6);
        dueNode(most, 5, 0, 0, 1, 0);
        noNode(most, 6, 0);
        noNode(most, 31, 0);
        noNode(most, 32, 0);
        noNode(most, MAX, 0);
    }

    @Edge(promise = 18, says = "no such game: a game too small")
    static void nodeBeforeTheFirstGame() {
        DrawBureau x = wonByFirstSides(3);
        for (int round = 0; round < 3; round++) {
            noNode(x, round, -1);
            noNode(x, round, MIN);
        }
    }

    @Edge(promise = 18, says = "no such game: a game too large, in each round")
    static void nodeBehindTheLastGame() {
        DrawBureau x = wonByFirstSides(6);
        dueNode(x, 0, 31, 21, 42, 21);
        dueNode(x, 1, 15, 10, 21, 10);
        dueNode(x, 2, 7, 5, 10, 5);
        dueNode(x, 3, 3, 2, 5, 2);
        dueNode(x, 4, 1, 1, 2, 1);
        dueNode(x, 5, 0, 0, 1, 0);
        for (int round = 0; round < 6; round++) {
            noNode(x, round, 32 >> round);
            noNode(x, round, MAX);
        }
    }

    @Edge(promise = 18, says = "first side 0, second 1, the winner 2: too small, too large")
    static void nodeOfAnotherSide() {
        DrawBureau x = wonByFirstSides(3);
        for (int round = 0; round < 3; round++) {
            for (int side : new int[] {MIN, -2, -1, 3, 4, MAX}) {
                due("node(" + round + ", 0, " + side + ")", x.node(round, 0, side), NONE);
            }
        }
    }

    @Edge(promise = 18, says = "places of 2^t: the least tree, and the next ones")
    static void nodesOfSmallTrees() {
        DrawBureau x = treeOf(2);
        dueNode(x, 0, 0, 0, 1, NONE);
        x.tree(4);
        dueNode(x, 0, 0, 0, 3, NONE);
        dueNode(x, 0, 1, 1, 2, NONE);
        x.tree(8);
        dueNode(x, 0, 0, 0, 7, NONE);
        dueNode(x, 0, 1, 3, 4, NONE);
        dueNode(x, 0, 2, 1, 6, NONE);
        dueNode(x, 0, 3, 2, 5, NONE);
    }

    @Edge(promise = 18, says = "places of 2^t: the largest tree, its first and its last")
    static void nodesOfTheLargestTree() {
        int[] firsts = {0, 31, 15, 16, 7, 24, 8, 23, 3, 28, 12, 19, 4, 27, 11, 20,
            1, 30, 14, 17, 6, 25, 9, 22, 2, 29, 13, 18, 5, 26, 10, 21};
        DrawBureau x = treeOf(64);
        for (int i = 0; i < 32; i++) {
            dueNode(x, 0, i, firsts[i], 63 - firsts[i], NONE);
        }
    }

    @Edge(promise = 18, says = "those from n on are none: n and n - 1")
    static void nodesFromNOn() {
        DrawBureau x = treeOf(63);
        dueNode(x, 0, 0, 0, NONE, 0);
        dueNode(x, 0, 16, 1, 62, NONE);
        x.tree(64);
        dueNode(x, 0, 0, 0, 63, NONE);
        x.tree(42);
        dueNode(x, 0, 31, 21, NONE, 21);
        x.tree(43);
        dueNode(x, 0, 31, 21, 42, NONE);
    }

    @Edge(promise = 18, says = "those from n on are none: all but one game have one, n is a power and one more")
    static void nodesOfOneMoreThanAPower() {
        for (int rounds = 2; rounds <= 6; rounds++) {
            int half = 1 << (rounds - 1);
            DrawBureau x = treeOf(half + 1);
            int games = 0;
            for (int i = 0; i < half; i++) {
                int first = x.node(0, i, 0);
                boolean isGame = x.node(0, i, 1) != NONE;
                games += isGame ? 1 : 0;
                due("winner of game " + i, x.node(0, i, 2), isGame ? NONE : first);
                due("second of game " + i, x.node(0, i, 1), first == half - 1 ? half : NONE);
            }
            due("games of " + (half + 1), games, 1);
        }
    }

    @Edge(promise = 18, says = "who meets none goes on without a game")
    static void nodesOfThoseThatGoOn() {
        DrawBureau x = treeOf(5);
        dueNode(x, 0, 0, 0, NONE, 0);
        dueNode(x, 0, 1, 3, 4, NONE);
        dueNode(x, 0, 2, 1, NONE, 1);
        dueNode(x, 0, 3, 2, NONE, 2);
        dueNode(x, 1, 0, 0, NONE, NONE);
        dueNode(x, 1, 1, 1, 2, NONE);
        noNode(x, 2, 0);
    }

    @Edge(promise = 18, says = "who meets none goes on: in round 0 alone, a side that is not known yet is no none")
    static void nodesThatWait() {
        DrawBureau x = treeOf(3);
        dueNode(x, 0, 0, 0, NONE, 0);
        dueNode(x, 1, 0, 0, NONE, NONE);
        DrawBureau y = treeOf(4);
        y.win(0, 1, false);
        dueNode(y, 1, 0, NONE, 1, NONE);
    }

    @Edge(promise = 18, says = "NONE when there is none (yet)")
    static void nodesNotYetKnown() {
        DrawBureau x = treeOf(4);
        noNode(x, 1, 0);
        x.win(0, 0, true);
        dueNode(x, 0, 0, 0, 3, 3);
        dueNode(x, 1, 0, 3, NONE, NONE);
        x.win(0, 1, true);
        dueNode(x, 1, 0, 3, 2, NONE);
        x.win(1, 0, true);
        dueNode(x, 1, 0, 3, 2, 2);
    }

    // ---- promise 19: win

    @Edge(promise = 19, says = "false, refused, when there is no such game: no tree")
    static void winWithoutATree() {
        DrawBureau x = new DrawBureau();
        notWon(x, 0, 0);
        wrongArgument("tree(1)", () -> x.tree(1));
        notWon(x, 0, 0);
        x.tree(2);
        won(x, 0, 0, true);
    }

    @Edge(promise = 19, says = "no such game: a round too small")
    static void winBeforeTheFirstRound() {
        DrawBureau x = wonByFirstSides(2);
        notWon(x, -1, 0);
        notWon(x, MIN, 0);
    }

    @Edge(promise = 19, says = "no such game: a round too large")
    static void winBehindTheLastRound() {
        DrawBureau least = wonByFirstSides(1);
        notWon(least, 1, 0);
        won(least, 0, 0, true);
        DrawBureau most = wonByFirstSides(6);
        notWon(most, 6, 0);
        notWon(most, 32, 0);
        notWon(most, MAX, 0);
        won(most, 5, 0, true);
        due("node(5, 0, 2)", most.node(5, 0, 2), 1);
    }

    @Edge(promise = 19, says = "no such game: a game too small")
    static void winBeforeTheFirstGame() {
        DrawBureau x = wonByFirstSides(3);
        for (int round = 0; round < 3; round++) {
            notWon(x, round, -1);
            notWon(x, round, MIN);
        }
    }

    @Edge(promise = 19, says = "no such game: a game too large, in each round")
    static void winBehindTheLastGame() {
        DrawBureau x = wonByFirstSides(6);
        for (int round = 0; round < 6; round++) {
            notWon(x, round, 32 >> round);
            notWon(x, round, MAX);
            won(x, round, (32 >> round) - 1, false);
        }
    }

    @Edge(promise = 19, says = "one of its players is not known: both")
    static void winWithBothNotKnown() {
        DrawBureau x = treeOf(4);
        notWon(x, 1, 0);
        noNode(x, 1, 0);
    }

    @Edge(promise = 19, says = "one of its players is not known: the first")
    static void winWithTheFirstNotKnown() {
        DrawBureau x = treeOf(4);
        won(x, 0, 1, false);
        notWon(x, 1, 0);
        dueNode(x, 1, 0, NONE, 1, NONE);
        won(x, 0, 0, false);
        won(x, 1, 0, true);
        dueNode(x, 1, 0, 0, 1, 1);
    }

    @Edge(promise = 19, says = "one of its players is not known: the second")
    static void winWithTheSecondNotKnown() {
        DrawBureau x = treeOf(4);
        won(x, 0, 0, false);
        notWon(x, 1, 0);
        dueNode(x, 1, 0, 0, NONE, NONE);
        won(x, 0, 1, false);
        won(x, 1, 0, false);
        dueNode(x, 1, 0, 0, 1, 0);
    }

    @Edge(promise = 19, says = "one of its players is none")
    static void winAgainstNone() {
        DrawBureau x = treeOf(3);
        notWon(x, 0, 0);
        dueNode(x, 0, 0, 0, NONE, 0);
        won(x, 0, 1, false);
        DrawBureau large = treeOf(63);
        notWon(large, 0, 0);
        won(large, 0, 1, true);
        large.tree(64);
        won(large, 0, 0, true);
    }

    @Edge(promise = 19, says = "won by its first side, or the second")
    static void winOfEachSide() {
        DrawBureau x = treeOf(2);
        won(x, 0, 0, false);
        dueNode(x, 0, 0, 0, 1, 0);
        DrawBureau y = treeOf(2);
        won(y, 0, 0, true);
        dueNode(y, 0, 0, 0, 1, 1);
    }

    @Edge(promise = 19, says = "what was won behind it by who lost now: nothing, when it is told again")
    static void winToldAgain() {
        DrawBureau x = wonByFirstSides(3);
        won(x, 0, 0, false);
        won(x, 1, 0, false);
        won(x, 2, 0, false);
        dueNode(x, 1, 0, 0, 3, 0);
        dueNode(x, 2, 0, 0, 1, 0);
    }

    @Edge(promise = 19, says = "what was won behind it by who lost now is no more: to the last round")
    static void winThatTurnsTheFirstRound() {
        DrawBureau x = wonByFirstSides(6);
        won(x, 0, 0, true);
        dueNode(x, 0, 0, 0, 63, 63);
        dueNode(x, 1, 0, 63, 31, NONE);
        dueNode(x, 2, 0, NONE, 15, NONE);
        dueNode(x, 3, 0, NONE, 7, NONE);
        dueNode(x, 4, 0, NONE, 3, NONE);
        dueNode(x, 5, 0, NONE, 1, NONE);
    }

    @Edge(promise = 19, says = "what was won behind it by who lost now is no more: by a second side")
    static void winThatTurnsASecondSide() {
        DrawBureau x = treeOf(4);
        won(x, 0, 0, false);
        won(x, 0, 1, true);
        won(x, 1, 0, true);
        dueNode(x, 1, 0, 0, 2, 2);
        won(x, 0, 1, false);
        dueNode(x, 1, 0, 0, 1, NONE);
    }

    @Edge(promise = 19, says = "what was won behind it by who lost now is no more: from the last game on")
    static void winThatTurnsTheLastGame() {
        DrawBureau x = wonBySides(6, true);
        dueNode(x, 0, 31, 21, 42, 42);
        dueNode(x, 5, 0, 43, 42, 42);
        won(x, 0, 31, false);
        dueNode(x, 0, 31, 21, 42, 21);
        dueNode(x, 1, 15, 53, 21, NONE);
        dueNode(x, 2, 7, 37, NONE, NONE);
        dueNode(x, 3, 3, 45, NONE, NONE);
        dueNode(x, 4, 1, 41, NONE, NONE);
        dueNode(x, 5, 0, 43, NONE, NONE);
        dueNode(x, 0, 30, 10, 53, 53);
    }

    @Edge(promise = 19, says = "what was won behind it by who lost now is no more: from a game between")
    static void winThatTurnsAGameBetween() {
        DrawBureau x = wonByFirstSides(4);
        // 2 won games 6, 3 and 1 of rounds 0 to 2 when it beats 1.
        won(x, 2, 1, true);
        won(x, 3, 0, true);
        dueNode(x, 3, 0, 0, 2, 2);
        won(x, 0, 6, true);
        dueNode(x, 0, 6, 2, 13, 13);
        dueNode(x, 1, 3, 13, 5, NONE);
        dueNode(x, 2, 1, 1, NONE, NONE);
        dueNode(x, 3, 0, 0, NONE, NONE);
        dueNode(x, 0, 7, 5, 10, 5);
        dueNode(x, 1, 2, 1, 6, 1);
        dueNode(x, 2, 0, 0, 3, 0);
    }

    @Edge(promise = 19, says = "behind it: what it had won before that game stays")
    static void winThatTurnsAMiddleRound() {
        DrawBureau x = wonByFirstSides(3);
        won(x, 1, 0, true);
        dueNode(x, 0, 0, 0, 7, 0);
        dueNode(x, 1, 0, 0, 3, 3);
        dueNode(x, 2, 0, 3, 1, NONE);
    }

    @Edge(promise = 19, says = "behind it: nothing is behind the last round")
    static void winThatTurnsTheLastRound() {
        DrawBureau x = wonByFirstSides(3);
        won(x, 2, 0, true);
        dueNode(x, 2, 0, 0, 1, 1);
        dueNode(x, 1, 0, 0, 3, 0);
        dueNode(x, 1, 1, 1, 2, 1);
    }

    @Edge(promise = 19, says = "by who lost now: what others won in the next round stays")
    static void winThatTurnsOneThatWonNothingMore() {
        DrawBureau x = wonByFirstSides(3);
        won(x, 0, 1, true);
        dueNode(x, 1, 0, 0, 4, 0);
        dueNode(x, 2, 0, 0, 1, 0);
    }

    @Edge(promise = 19, says = "by who lost now: what others won in the other part of the tree stays")
    static void winLeavesTheOtherPart() {
        DrawBureau x = wonByFirstSides(3);
        won(x, 0, 0, true);
        dueNode(x, 0, 2, 1, 6, 1);
        dueNode(x, 0, 3, 2, 5, 2);
        dueNode(x, 1, 1, 1, 2, 1);
        dueNode(x, 2, 0, NONE, 1, NONE);
    }

    @Edge(promise = 19, says = "is no more: it does not come back when the game is turned back")
    static void winTurnedBack() {
        DrawBureau x = wonByFirstSides(3);
        won(x, 0, 0, true);
        won(x, 0, 0, false);
        dueNode(x, 1, 0, 0, 3, NONE);
        notWon(x, 2, 0);
        won(x, 1, 0, false);
        dueNode(x, 2, 0, 0, 1, NONE);
        won(x, 2, 0, false);
        dueNode(x, 2, 0, 0, 1, 0);
    }

    @Edge(promise = 19, says = "a game whose players are known is played: behind those that met none")
    static void winBehindThoseThatGoOn() {
        DrawBureau x = treeOf(5);
        won(x, 1, 1, true);
        dueNode(x, 1, 1, 1, 2, 2);
        dueNode(x, 2, 0, NONE, 2, NONE);
        notWon(x, 1, 0);
        notWon(x, 2, 0);
        won(x, 0, 1, true);
        won(x, 1, 0, true);
        won(x, 2, 0, false);
        dueNode(x, 2, 0, 4, 2, 4);
    }

    public static void main(String[] args) {
        run(TreeEdgeTest.class, 17, 19);
    }
}
