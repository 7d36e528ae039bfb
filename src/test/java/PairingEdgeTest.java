/** The edges of players, pairings, costs, opponents and colours: promises 8 to 12. */
public final class PairingEdgeTest extends Edges {
    private static void allOutBut(DrawBureau x, int p, int... stay) {
        for (int player = 0; player < p; player++) {
            boolean stays = false;
            for (int one : stay) {
                stays |= one == player;
            }
            if (!stays) {
                x.out(player);
            }
        }
    }

    private static void dueOpponents(DrawBureau x, int round, int... want) {
        for (int player = 0; player < want.length; player++) {
            due("opponent(" + player + ", " + round + ")", x.opponent(player, round), want[player]);
        }
    }

    private static void dueCost(DrawBureau x, int first, int second, int third) {
        due("cost(0)", x.cost(0), first);
        due("cost(1)", x.cost(1), second);
        due("cost(2)", x.cost(2), third);
    }

    // ---- promise 8: players

    @Edge(promise = 8, says = "false, refused, when p is not 2 .. 16: too small")
    static void tooFewPlayers() {
        DrawBureau x = new DrawBureau();
        for (int p : new int[] {1, 0, -1, -2, -16, MIN}) {
            refused("players(" + p + ")", x.players(p));
            due("standing(0)", x.standing(0), NONE);
        }
        taken("players(2)", x.players(2));
        due("standing(1)", x.standing(1), 1);
        due("standing(2)", x.standing(2), NONE);
    }

    @Edge(promise = 8, says = "false, refused, when p is not 2 .. 16: too large")
    static void tooManyPlayers() {
        DrawBureau x = new DrawBureau();
        for (int p : new int[] {17, 18, 32, 34, 65536 + 2, MAX}) {
            refused("players(" + p + ")", x.players(p));
            due("standing(0)", x.standing(0), NONE);
        }
        taken("players(16)", x.players(16));
        due("standing(15)", x.standing(15), 15);
        due("standing(16)", x.standing(16), NONE);
    }

    @Edge(promise = 8, says = "p players, even or odd")
    static void eachNumberOfPlayers() {
        DrawBureau x = new DrawBureau();
        for (int p = 2; p <= 16; p++) {
            taken("players(" + p + ")", x.players(p));
            due("the last of " + p, x.standing(p - 1), p - 1);
            due("none behind the last of " + p, x.standing(p), NONE);
            due("games of " + p, x.pair(), p / 2);
        }
    }

    @Edge(promise = 8, says = "all in")
    static void playersAnewAreIn() {
        DrawBureau x = playersOf(2);
        x.out(0);
        x.out(1);
        x.players(2);
        due("pair()", x.pair(), 1);
        dueOpponents(x, 0, 1, 0);
    }

    @Edge(promise = 8, says = "no rounds: a game that is not booked is no hindrance")
    static void playersAnewHaveNoRounds() {
        DrawBureau x = playersOf(4);
        x.pair();
        x.players(4);
        dueOpponents(x, 0, NONE, NONE, NONE, NONE);
        wrongArgument("book(0, 0, 1)", () -> x.book(0, 0, 1));
        due("pair()", x.pair(), 2);
        dueOpponents(x, 0, 2, 3, 0, 1);
        dueOpponents(x, 1, NONE, NONE, NONE, NONE);
    }

    @Edge(promise = 8, says = "p players begin: none has met another")
    static void playersAnewHaveNotMet() {
        DrawBureau x = played(2, "1");
        noElement("pair() of two that have met", x::pair);
        x.players(2);
        due("pair() behind players(2)", x.pair(), 1);
    }

    @Edge(promise = 8, says = "p players begin: none had a free round, points or a need")
    static void playersAnewHaveNothing() {
        DrawBureau x = played(3, "2", "2");
        x.players(3);
        for (int player = 0; player < 3; player++) {
            for (int what = 0; what <= 5; what++) {
                due("score(" + player + ", " + what + ")", x.score(player, what), 0);
            }
        }
        x.pair();
        dueOpponents(x, 0, 2, FREE, 0);
        dueCost(x, 0, 0, 15);
    }

    @Edge(promise = 8, says = "p players begin: fewer than before")
    static void fewerPlayersThanBefore() {
        DrawBureau x = played(16, "22222222");
        x.players(2);
        due("standing(2)", x.standing(2), NONE);
        due("opponent(2, 0)", x.opponent(2, 0), NONE);
        due("score(8, 5)", x.score(8, 5), 0);
        refused("out(2)", x.out(2));
        due("pair()", x.pair(), 1);
        dueOpponents(x, 0, 1, 0, NONE, NONE);
    }

    @Edge(promise = 8, says = "p players begin: more than before")
    static void morePlayersThanBefore() {
        DrawBureau x = played(2, "2");
        x.players(16);
        due("pair()", x.pair(), 8);
        dueOpponents(x, 0, 8, 9, 10, 11, 12, 13, 14, 15, 0, 1, 2, 3, 4, 5, 6, 7);
    }

    // ---- promise 9: pair

    @Edge(promise = 9, says = "IllegalStateException: there are no players")
    static void pairWithoutPlayers() {
        DrawBureau x = new DrawBureau();
        wrongState("pair()", x::pair);
        x.players(1);
        wrongState("pair() behind refused players", x::pair);
        x.players(2);
        due("pair()", x.pair(), 1);
    }

    @Edge(promise = 9, says = "a game of the latest round is not booked: none of them is")
    static void pairWithNoGameBooked() {
        DrawBureau x = playersOf(4);
        due("the first round needs no booking", x.pair(), 2);
        wrongState("pair()", x::pair);
        dueOpponents(x, 1, NONE, NONE, NONE, NONE);
    }

    @Edge(promise = 9, says = "a game of the latest round is not booked: just one, whichever")
    static void pairWithOneGameNotBooked() {
        for (int left = 0; left < 8; left++) {
            DrawBureau x = playersOf(16);
            x.pair();
            for (int i = 0; i < 8; i++) {
                if (i != left) {
                    x.book(0, i, 0);
                }
            }
            wrongState("pair() without game " + left, x::pair);
            x.book(0, left, 0);
            due("pair() with all games", x.pair(), 8);
        }
    }

    @Edge(promise = 9, says = "a game of the latest round is not booked: in a later round")
    static void pairWithALaterRoundNotBooked() {
        DrawBureau x = played(4, "11");
        x.pair();
        wrongState("pair()", x::pair);
        x.book(1, 0, 1);
        wrongState("pair()", x::pair);
        x.book(0, 1, 1);
        wrongState("pair(), an earlier round was corrected", x::pair);
        x.book(1, 1, 1);
        due("pair()", x.pair(), 2);
    }

    @Edge(promise = 9, says = "the free round is none: it needs no booking")
    static void pairBehindAFreeRound() {
        DrawBureau x = playersOf(3);
        x.pair();
        x.book(0, 0, 1);
        due("pair()", x.pair(), 1);
    }

    @Edge(promise = 9, says = "a game of the latest round is not booked: of players that are out, too")
    static void pairWithAGameOfOneThatIsOut() {
        DrawBureau x = playersOf(4);
        x.pair();
        x.book(0, 0, 1);
        x.out(1);
        x.out(3);
        wrongState("pair()", x::pair);
        x.book(0, 1, 1);
        noElement("pair() of 0 and 2, that have met", x::pair);
    }

    @Edge(promise = 9, says = "fewer than two players are in: one of two")
    static void pairWithOneOfTwo() {
        DrawBureau x = playersOf(2);
        x.out(0);
        wrongState("pair() with one", x::pair);
        x.out(1);
        wrongState("pair() with none", x::pair);
    }

    @Edge(promise = 9, says = "fewer than two players are in: of the most players")
    static void pairWithTwoOfSixteen() {
        DrawBureau x = playersOf(16);
        allOutBut(x, 16, 0, 15);
        due("pair() with two", x.pair(), 1);
        x.book(0, 0, 1);
        x.out(15);
        wrongState("pair() with one", x::pair);
        x.out(0);
        wrongState("pair() with none", x::pair);
    }

    @Edge(promise = 9, says = "NoSuchElementException (behind these): not booked counts before")
    static void pairNotBookedAndWithoutPairing() {
        DrawBureau x = playersOf(2);
        x.pair();
        wrongState("pair()", x::pair);
        x.book(0, 0, 0);
        noElement("pair() when booked", x::pair);
    }

    @Edge(promise = 9, says = "NoSuchElementException (behind these): fewer than two counts before")
    static void pairOfOneThatMetAll() {
        DrawBureau x = played(2, "1");
        noElement("pair() with two", x::pair);
        x.out(1);
        wrongState("pair() with one", x::pair);
    }

    @Edge(promise = 9, says = "there is no such pairing: an even number that have all met")
    static void pairWhenAllHaveMet() {
        DrawBureau x = played(4, "11", "11");
        due("the last round", x.pair(), 2);
        x.book(2, 0, 1);
        x.book(2, 1, 1);
        noElement("pair()", x::pair);
        noElement("pair() again", x::pair);
    }

    @Edge(promise = 9, says = "there is no such pairing: an odd number that have all met, none was free")
    static void pairOfThreeThatHaveMet() {
        DrawBureau x = played(4, "20", "20", "10");
        x.out(3);
        noElement("pair()", x::pair);
    }

    @Edge(promise = 9, says = "there is no such pairing: some have not met")
    static void pairWhenSomeHaveNotMet() {
        // Each of 0 1 2 has met each of 3 4 5 and nobody else: two threes make no pairs.
        DrawBureau x = played(6, "111", "111", "111");
        noElement("pair() of six", x::pair);
        x.out(0);
        due("pair() of five, one free", x.pair(), 2);
    }

    @Edge(promise = 9, says = "one has a FREE round who had none: all three had one")
    static void pairWhenAllWereFree() {
        DrawBureau x = played(5, "12", "12", "11");
        x.out(0);
        playRound(x, 3, "01");
        x.out(1);
        int met = 0;
        for (int player = 2; player < 5; player++) {
            int free = 0;
            for (int round = 0; round < 4; round++) {
                free += x.opponent(player, round) == FREE ? 1 : 0;
                met += x.opponent(player, round) >= 2 && x.opponent(player, round) < 5 ? 1 : 0;
            }
            due("free rounds of " + player, free, 1);
        }
        taken("not all of 2, 3 and 4 have met", met < 6);
        noElement("pair()", x::pair);
    }

    @Edge(promise = 9, says = "when their number is odd, one has a FREE round: the least odd number")
    static void pairOfThree() {
        DrawBureau x = played(3, "2");
        dueOpponents(x, 0, 2, FREE, 0);
        playRound(x, 1, "0");
        dueOpponents(x, 1, 1, 0, FREE);
        playRound(x, 2, "1");
        dueOpponents(x, 2, FREE, 2, 1);
        noElement("pair() when all were free", x::pair);
    }

    @Edge(promise = 9, says = "when their number is odd, one has a FREE round: the greatest odd number")
    static void pairOfFifteen() {
        DrawBureau x = playersOf(15);
        due("pair()", x.pair(), 7);
        dueOpponents(x, 0, 8, 9, 10, 11, 12, 13, 14, FREE, 0, 1, 2, 3, 4, 5, 6);
    }

    @Edge(promise = 9, says = "when their number is odd: an even number has no free round")
    static void pairOfSixteen() {
        DrawBureau x = playersOf(16);
        due("pair()", x.pair(), 8);
        dueOpponents(x, 0, 8, 9, 10, 11, 12, 13, 14, 15, 0, 1, 2, 3, 4, 5, 6, 7);
    }

    @Edge(promise = 9, says = "the players that are in: one out of an even number leaves an odd one")
    static void pairOfFourWithOneOut() {
        DrawBureau x = playersOf(4);
        x.out(0);
        due("pair()", x.pair(), 1);
        // 1-3 with 2 free and 2-3 with 1 free cost 16 each: the lesser opponent of 1 counts.
        dueOpponents(x, 0, NONE, 3, FREE, 1);
    }

    @Edge(promise = 9, says = "full: sixteen players, each meets each in fifteen rounds")
    static void pairTillAllOfSixteenHaveMet() {
        DrawBureau x = playersOf(16);
        int[] met = new int[16];
        for (int round = 0; round < 15; round++) {
            playRound(x, round, "11111111");
            for (int player = 0; player < 16; player++) {
                met[player] |= 1 << x.opponent(player, round);
            }
        }
        for (int player = 0; player < 16; player++) {
            due("opponents of " + player, met[player], 0xffff & ~(1 << player));
            due("points of " + player, x.score(player, 0), 15);
        }
    }

    @Edge(promise = 9, says = "there is no such pairing: sixteen players behind fifteen rounds")
    static void pairOfSixteenThatHaveMet() {
        DrawBureau x = playersOf(16);
        for (int round = 0; round < 15; round++) {
            playRound(x, round, "11111111");
        }
        noElement("pair() of sixteen", x::pair);
        x.out(5);
        noElement("pair() of fifteen", x::pair);
        due("opponent(0, 15)", x.opponent(0, 15), NONE);
    }

    @Edge(promise = 9, says = "full: fifteen players, each is free once in fifteen rounds")
    static void pairTillAllOfFifteenWereFree() {
        DrawBureau x = playersOf(15);
        int[] met = new int[15];
        for (int round = 0; round < 15; round++) {
            playRound(x, round, "2222222");
            for (int player = 0; player < 15; player++) {
                met[player] |= 1 << x.opponent(player, round);
            }
        }
        for (int player = 0; player < 15; player++) {
            due("opponents of " + player, met[player], 0x17fff & ~(1 << player));
        }
        noElement("pair() behind them", x::pair);
    }

    @Edge(promise = 9, says = "full: the most rounds there can be, fifteen opponents and a free round")
    static void pairSixteenRounds() {
        DrawBureau x = playersOf(16);
        for (int round = 0; round < 13; round++) {
            playRound(x, round, "00000000");
        }
        allOutBut(x, 16, 2, 3, 4, 10, 11, 13, 14);
        playRound(x, 13, "111");
        x.out(3);
        x.out(11);
        playRound(x, 14, "11");
        x.out(2);
        x.out(13);
        due("games of the sixteenth round", x.pair(), 1);
        due("the free one", x.opponent(14, 15), FREE);
        due("opponent(4, 15)", x.opponent(4, 15), 10);
        int met = 0;
        for (int round = 0; round < 16; round++) {
            met |= 1 << x.opponent(14, round);
        }
        due("opponents of 14", met, 0x1bfff);
        wrongState("pair() before it is booked", x::pair);
        x.book(15, 0, 2);
        noElement("pair() a seventeenth time", x::pair);
        due("opponent(14, 16)", x.opponent(14, 16), NONE);
    }

    @Edge(promise = 9, says = "the least cost: the first number counts first")
    static void pairByTheFirstNumber() {
        // Points 0 0 2 2: 0-1 and 2-3 cost 0 6 30, 0-3 and 1-2 cost 8 0 28.
        DrawBureau x = played(4, "00");
        x.pair();
        dueOpponents(x, 1, 1, 0, 3, 2);
        dueCost(x, 0, 6, 30);
    }

    @Edge(promise = 9, says = "the least cost: then the second")
    static void pairByTheSecondNumber() {
        // Points 2 2 3 2 3, needs -1 3 -3 1 1: 0 free, 1-3, 2-4 cost 4 1 28.
        DrawBureau x = played(5, "10", "11");
        x.pair();
        dueOpponents(x, 2, 1, 0, 4, FREE, 2);
        dueCost(x, 4, 0, 32);
    }

    @Edge(promise = 9, says = "the least cost: then the third")
    static void pairByTheThirdNumber() {
        // 0-1 with 2 free costs 17, though 0 would have a lesser opponent.
        DrawBureau x = playersOf(3);
        x.pair();
        dueOpponents(x, 0, 2, FREE, 0);
        dueCost(x, 0, 0, 15);
    }

    @Edge(promise = 9, says = "of several that which first has one with a lesser opponent: player 0")
    static void pairByTheOpponentOfTheFirst() {
        // 0-2 and 1-3 cost 28, as do 0-3 and 1-2.
        DrawBureau x = playersOf(4);
        x.pair();
        dueOpponents(x, 0, 2, 3, 0, 1);
    }

    @Edge(promise = 9, says = "of several that which first has one with a lesser opponent: a later player")
    static void pairByTheOpponentOfALaterOne() {
        // 0-3 stands in both: 1-4 and 2-5 cost as much as 1-5 and 2-4.
        DrawBureau x = playersOf(6);
        x.pair();
        dueOpponents(x, 0, 3, 4, 5, 0, 1, 2);
    }

    @Edge(promise = 9, says = "a free round counts as 16: player 0 is not free at the same cost")
    static void pairWithTheFirstFreeAtTheSameCost() {
        // 0-2 with 1 free costs 14 + 1, 0 free with 1-2 costs 0 + 15.
        DrawBureau x = playersOf(3);
        x.pair();
        due("opponent(0, 0)", x.opponent(0, 0), 2);
        due("opponent(1, 0)", x.opponent(1, 0), FREE);
    }

    @Edge(promise = 9, says = "a free round counts as 16: a later player is not free at the same cost")
    static void pairWithALaterOneFreeAtTheSameCost() {
        // 0-3 stands in both: 1-4 with 2 free costs as much as 2-4 with 1 free.
        DrawBureau x = playersOf(5);
        x.pair();
        dueOpponents(x, 0, 3, 4, FREE, 0, 1);
    }

    // ---- promise 10: cost

    @Edge(promise = 10, says = "0 before")
    static void costBeforeAPairing() {
        DrawBureau x = new DrawBureau();
        dueCost(x, 0, 0, 0);
        x.players(16);
        dueCost(x, 0, 0, 0);
        x.pair();
        dueCost(x, 0, 0, 64);
    }

    @Edge(promise = 10, says = "0 behind players()")
    static void costBehindPlayers() {
        DrawBureau x = played(4, "00", "00");
        dueCost(x, 0, 6, 30);
        x.players(4);
        dueCost(x, 0, 0, 0);
    }

    @Edge(promise = 10, says = "0 for another what: too small, too large")
    static void costOfAnotherWhat() {
        DrawBureau x = played(4, "22", "02");
        x.pair();
        dueCost(x, 16, 2, 28);
        for (int what : new int[] {MIN, -2, -1, 3, 4, MAX}) {
            due("cost(" + what + ")", x.cost(what), 0);
        }
    }

    @Edge(promise = 10, says = "of the pairing made last: a call of pair that was refused made none")
    static void costBehindARefusedPair() {
        DrawBureau x = played(4, "22", "02");
        x.pair();
        wrongState("pair(), not booked", x::pair);
        dueCost(x, 16, 2, 28);
        x.book(2, 0, 1);
        x.book(2, 1, 1);
        noElement("pair(), all have met", x::pair);
        dueCost(x, 16, 2, 28);
        allOutBut(x, 4, 3);
        wrongState("pair(), one is in", x::pair);
        dueCost(x, 16, 2, 28);
    }

    @Edge(promise = 10, says = "of the pairing made last: bookings and corrections do not change it")
    static void costBehindBookings() {
        DrawBureau x = played(4, "22", "02");
        x.pair();
        x.book(2, 0, 0);
        x.book(0, 0, 0);
        x.book(1, 1, 1);
        dueCost(x, 16, 2, 28);
    }

    @Edge(promise = 10, says = "the square of the difference of points: the sum of the squares")
    static void costOfPoints() {
        // Points 4 1 2 1: 0-1 makes 9, 2-3 makes 1.
        DrawBureau x = played(4, "21", "02");
        x.pair();
        dueOpponents(x, 2, 1, 0, 3, 2);
        dueCost(x, 10, 2, 30);
    }

    @Edge(promise = 10, says = "the lesser of both needs if both are above 0 or both below: equal ones")
    static void costOfEqualNeeds() {
        // Needs 3 3 -3 -3: 0-1 makes 3, 2-3 makes 3.
        DrawBureau x = played(4, "22");
        x.pair();
        dueOpponents(x, 1, 1, 0, 3, 2);
        dueCost(x, 0, 6, 30);
    }

    @Edge(promise = 10, says = "the lesser of both needs (without sign): different ones")
    static void costOfDifferentNeeds() {
        // Needs -1 5 1 -5: 0-3 makes 1, 1-2 makes 1.
        DrawBureau x = played(4, "00", "10");
        x.pair();
        dueOpponents(x, 2, 3, 2, 1, 0);
        dueCost(x, 10, 2, 28);
    }

    @Edge(promise = 10, says = "the three numbers of its cost: each for itself, odd ones")
    static void costOfOddNumbers() {
        // Points 3 4 1 1 2 1, needs -1 -1 5 1 -3 -3: 0-1 makes 1 1 15, 2-4 makes 1 0 14, 3 free makes 1 0 3.
        DrawBureau x = played(6, "121");
        x.out(5);
        playRound(x, 1, "00");
        x.pair();
        dueOpponents(x, 2, 1, 0, 4, FREE, 2, NONE);
        dueCost(x, 3, 1, 32);
    }

    @Edge(promise = 10, says = "both above 0 or both below, else 0: one need is 0")
    static void costOfANeedOfNothing() {
        // Points 2 2 0, needs 3 0 -3: 0-1 and 2 free.
        DrawBureau x = played(3, "2");
        x.pair();
        dueOpponents(x, 1, 1, 0, FREE);
        dueCost(x, 0, 0, 17);
    }

    @Edge(promise = 10, says = "both above 0 or both below, else 0: one above and one below")
    static void costOfOppositeNeeds() {
        // Needs -1 3 -3: 1-2, and 0 is free.
        DrawBureau x = played(3, "2", "0");
        x.pair();
        dueOpponents(x, 2, FREE, 2, 1);
        dueCost(x, 16, 0, 15);
    }

    @Edge(promise = 10, says = "16 less the difference of their numbers: the least and the greatest")
    static void costOfNumbers() {
        DrawBureau near = playersOf(2);
        near.pair();
        dueCost(near, 0, 0, 15);
        DrawBureau far = playersOf(16);
        allOutBut(far, 16, 0, 15);
        far.pair();
        dueCost(far, 0, 0, 1);
    }

    @Edge(promise = 10, says = "the free round counts like a pair with a player 16: of numbers 0 and 15")
    static void costOfAFreeRoundByNumber() {
        DrawBureau first = played(3, "2", "0");
        first.pair();
        due("0 is free", first.opponent(0, 2), FREE);
        due("cost(2): 1-2 makes 15, 0 free makes 0", first.cost(2), 15);
        DrawBureau last = playersOf(16);
        allOutBut(last, 16, 0, 1, 15);
        last.pair();
        due("cost(2): 0-15 makes 1, 1 free makes 1", last.cost(2), 2);
        last.book(0, 0, 2);
        last.pair();
        due("15 is free", last.opponent(15, 1), FREE);
        due("cost(2): 0-1 makes 15, 15 free makes 15", last.cost(2), 30);
    }

    @Edge(promise = 10, says = "a player 16, who has no points: the free one's points squared")
    static void costOfAFreeRoundByPoints() {
        // Points 1 2 1: 0 free makes 1, 1-2 makes 1.
        DrawBureau x = played(3, "1");
        x.pair();
        dueOpponents(x, 1, FREE, 2, 1);
        dueCost(x, 2, 0, 15);
    }

    @Edge(promise = 10, says = "a player 16, who has no need: neither above 0 nor below")
    static void costOfAFreeRoundByNeed() {
        // The need of 2 is -3, and it is free.
        DrawBureau x = played(3, "2");
        x.pair();
        due("2 is free", x.opponent(2, 1), FREE);
        due("cost(1)", x.cost(1), 0);
    }

    @Edge(promise = 10, says = "the sums over the pairs: the most players, even and odd")
    static void costOfTheMostPlayers() {
        DrawBureau even = playersOf(16);
        even.pair();
        dueCost(even, 0, 0, 64);
        DrawBureau odd = playersOf(15);
        odd.pair();
        // Seven pairs that are 8 apart make 56, 7 free makes 7.
        dueCost(odd, 0, 0, 63);
    }

    // ---- promise 11: opponent

    @Edge(promise = 11, says = "NONE: no such player, there are no players at all")
    static void opponentWithoutPlayers() {
        DrawBureau x = new DrawBureau();
        due("opponent(0, 0)", x.opponent(0, 0), NONE);
        due("opponent(16, 0)", x.opponent(16, 0), NONE);
    }

    @Edge(promise = 11, says = "NONE: no such player, too small or too large")
    static void opponentOfNoPlayer() {
        DrawBureau x = playersOf(3);
        x.pair();
        for (int player : new int[] {MIN, -16, -1, 3, 15, 16, 17, MAX}) {
            due("opponent(" + player + ", 0)", x.opponent(player, 0), NONE);
        }
        due("opponent(2, 0)", x.opponent(2, 0), 0);
        DrawBureau most = playersOf(16);
        most.pair();
        due("opponent(15, 0)", most.opponent(15, 0), 7);
        due("opponent(16, 0)", most.opponent(16, 0), NONE);
    }

    @Edge(promise = 11, says = "NONE: no such round, too small or too large")
    static void opponentInNoRound() {
        DrawBureau x = playersOf(4);
        due("opponent(0, 0) before a round", x.opponent(0, 0), NONE);
        playRound(x, 0, "22");
        due("opponent(0, 0)", x.opponent(0, 0), 2);
        due("opponent(0, 1)", x.opponent(0, 1), NONE);
        playRound(x, 1, "22");
        due("opponent(0, 1)", x.opponent(0, 1), 1);
        for (int round : new int[] {MIN, -1, 2, 15, 16, MAX}) {
            due("opponent(0, " + round + ")", x.opponent(0, round), NONE);
        }
    }

    @Edge(promise = 11, says = "16 with a free round")
    static void opponentOfAFreeRound() {
        DrawBureau x = playersOf(3);
        x.pair();
        due("opponent(1, 0)", x.opponent(1, 0), 16);
    }

    @Edge(promise = 11, says = "NONE when it had no game there: it was out")
    static void opponentOfOneThatIsOut() {
        DrawBureau x = played(4, "11");
        x.out(2);
        x.pair();
        dueOpponents(x, 0, 2, 3, 0, 1);
        due("opponent(2, 1)", x.opponent(2, 1), NONE);
        due("opponent(0, 1)", x.opponent(0, 1), 3);
        x.out(0);
        due("opponent(0, 1), out behind the round", x.opponent(0, 1), 3);
    }

    // ---- promise 12: colour

    @Edge(promise = 12, says = "NONE without a game there: no players, no rounds")
    static void colourWithoutARound() {
        DrawBureau x = new DrawBureau();
        due("colour(0, 0) without players", x.colour(0, 0), NONE);
        x.players(2);
        due("colour(0, 0) before a round", x.colour(0, 0), NONE);
        x.pair();
        due("colour(0, 0)", x.colour(0, 0), 1);
        due("colour(1, 0)", x.colour(1, 0), 0);
    }

    @Edge(promise = 12, says = "NONE without a game there: no such player")
    static void colourOfNoPlayer() {
        DrawBureau x = playersOf(4);
        x.pair();
        for (int player : new int[] {MIN, -1, 4, 15, 16, MAX}) {
            due("colour(" + player + ", 0)", x.colour(player, 0), NONE);
        }
        due("colour(3, 0)", x.colour(3, 0), 0);
        DrawBureau most = playersOf(16);
        most.pair();
        due("colour(15, 0)", most.colour(15, 0), 0);
        due("colour(16, 0)", most.colour(16, 0), NONE);
    }

    @Edge(promise = 12, says = "NONE without a game there: no such round")
    static void colourInNoRound() {
        DrawBureau x = played(4, "22", "22");
        for (int round : new int[] {MIN, -1, 2, 15, 16, MAX}) {
            due("colour(0, " + round + ")", x.colour(0, round), NONE);
        }
        due("colour(0, 0)", x.colour(0, 0), 1);
        due("colour(0, 1)", x.colour(0, 1), 0);
    }

    @Edge(promise = 12, says = "NONE without a game there: a free round")
    static void colourOfAFreeRound() {
        DrawBureau x = playersOf(3);
        x.pair();
        due("colour(1, 0)", x.colour(1, 0), NONE);
    }

    @Edge(promise = 12, says = "NONE without a game there: it was out")
    static void colourOfOneThatIsOut() {
        DrawBureau x = playersOf(3);
        x.out(2);
        x.pair();
        due("colour(2, 0)", x.colour(2, 0), NONE);
        x.out(0);
        due("colour(0, 0), out behind the round", x.colour(0, 0), 1);
    }

    @Edge(promise = 12, says = "with equal ones the better is white if the need is not above 0: it is 0")
    static void colourByEqualNeedsOfNothing() {
        DrawBureau x = playersOf(4);
        x.pair();
        due("colour(0, 0)", x.colour(0, 0), 1);
        due("colour(2, 0)", x.colour(2, 0), 0);
        due("colour(1, 0)", x.colour(1, 0), 1);
        due("colour(3, 0)", x.colour(3, 0), 0);
    }

    @Edge(promise = 12, says = "with equal ones the better is white if the need is not above 0: it is below")
    static void colourByEqualNeedsBelow() {
        DrawBureau x = played(4, "22");
        x.pair();
        due("needs of 2 and 3", x.opponent(2, 1), 3);
        due("colour(2, 1)", x.colour(2, 1), 1);
        due("colour(3, 1)", x.colour(3, 1), 0);
    }

    @Edge(promise = 12, says = "with equal ones the better is white if the need is not above 0, else black")
    static void colourByEqualNeedsAbove() {
        DrawBureau x = played(4, "22");
        x.pair();
        due("opponent(0, 1)", x.opponent(0, 1), 1);
        due("colour(0, 1)", x.colour(0, 1), 0);
        due("colour(1, 1)", x.colour(1, 1), 1);
    }

    @Edge(promise = 12, says = "the one with the lesser need is white: 0 and above 0")
    static void colourByNeedsOfNothingAndAbove() {
        DrawBureau x = played(3, "2");
        x.pair();
        due("opponent(0, 1)", x.opponent(0, 1), 1);
        due("colour(0, 1)", x.colour(0, 1), 0);
        due("colour(1, 1)", x.colour(1, 1), 1);
    }

    @Edge(promise = 12, says = "the one with the lesser need is white: 0 and below 0")
    static void colourByNeedsOfNothingAndBelow() {
        DrawBureau x = played(3, "0");
        x.pair();
        due("opponent(1, 1)", x.opponent(1, 1), 2);
        due("colour(1, 1)", x.colour(1, 1), 0);
        due("colour(2, 1)", x.colour(2, 1), 1);
    }

    @Edge(promise = 12, says = "the one with the lesser need is white: both above, both below, with their signs")
    static void colourByDifferentNeedsOfOneSign() {
        // Needs -1 5 1 -5.
        DrawBureau x = played(4, "00", "10");
        x.pair();
        due("colour(0, 2), need -1 against -5", x.colour(0, 2), 0);
        due("colour(3, 2)", x.colour(3, 2), 1);
        due("colour(1, 2), need 5 against 1", x.colour(1, 2), 0);
        due("colour(2, 2)", x.colour(2, 2), 1);
    }

    @Edge(promise = 12, says = "1 when a player was white, also in a game that isn't booked")
    static void colourOfAGameThatIsCorrected() {
        DrawBureau x = playersOf(2);
        x.pair();
        due("colour(0, 0), not booked", x.colour(0, 0), 1);
        x.book(0, 0, 0);
        due("colour(0, 0), booked", x.colour(0, 0), 1);
        due("colour(1, 0), booked", x.colour(1, 0), 0);
    }

    public static void main(String[] args) {
        run(PairingEdgeTest.class, 8, 12);
    }
}
