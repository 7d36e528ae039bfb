/** The edges of results, of going out, of standings and scores: promises 13 to 16. */
public final class ResultEdgeTest extends Edges {
    private static void notBooked(DrawBureau x, int round, int i, int halves) {
        wrongArgument("book(" + round + ", " + i + ", " + halves + ")", () -> x.book(round, i, halves));
    }

    private static void duePoints(DrawBureau x, int... want) {
        for (int player = 0; player < want.length; player++) {
            due("points of " + player, x.score(player, 0), want[player]);
        }
    }

    private static void dueScores(DrawBureau x, int player, int... want) {
        for (int what = 0; what < want.length; what++) {
            due("score(" + player + ", " + what + ")", x.score(player, what), want[what]);
        }
    }

    private static void dueStandings(DrawBureau x, int... want) {
        for (int place = 0; place < want.length; place++) {
            due("standing(" + place + ")", x.standing(place), want[place]);
        }
    }

    // ---- promise 13: book

    @Edge(promise = 13, says = "there is no such round: no players")
    static void bookWithoutPlayers() {
        notBooked(new DrawBureau(), 0, 0, 1);
    }

    @Edge(promise = 13, says = "there is no such round: none is paired")
    static void bookBeforeARound() {
        DrawBureau x = playersOf(2);
        notBooked(x, 0, 0, 1);
        x.pair();
        x.book(0, 0, 1);
        duePoints(x, 1, 1);
    }

    @Edge(promise = 13, says = "there is no such round: too small")
    static void bookInARoundBelow() {
        DrawBureau x = playersOf(4);
        x.pair();
        notBooked(x, -1, 0, 2);
        notBooked(x, MIN, 0, 2);
        duePoints(x, 0, 0, 0, 0);
        x.book(0, 0, 2);
        duePoints(x, 2, 0, 0, 0);
    }

    @Edge(promise = 13, says = "there is no such round: too large")
    static void bookInARoundAbove() {
        DrawBureau x = played(4, "22");
        notBooked(x, 1, 0, 2);
        x.pair();
        for (int round : new int[] {2, 3, 15, 16, MAX}) {
            notBooked(x, round, 0, 2);
        }
        duePoints(x, 2, 2, 0, 0);
        // 0-1, 1 is white.
        x.book(1, 0, 2);
        duePoints(x, 2, 4, 0, 0);
    }

    @Edge(promise = 13, says = "there is no such game: too small")
    static void bookAGameBelow() {
        DrawBureau x = playersOf(4);
        x.pair();
        notBooked(x, 0, -1, 2);
        notBooked(x, 0, MIN, 2);
        duePoints(x, 0, 0, 0, 0);
    }

    @Edge(promise = 13, says = "there is no such game: too large")
    static void bookAGameAbove() {
        DrawBureau x = playersOf(4);
        x.pair();
        for (int i : new int[] {2, 3, 16, MAX}) {
            notBooked(x, 0, i, 2);
        }
        duePoints(x, 0, 0, 0, 0);
        x.book(0, 1, 2);
        duePoints(x, 0, 2, 0, 0);
    }

    @Edge(promise = 13, says = "there is no such game: behind the last of the most players")
    static void bookTheLastGameOfSixteen() {
        DrawBureau x = playersOf(16);
        x.pair();
        notBooked(x, 0, 8, 0);
        x.book(0, 7, 0);
        due("points of 7", x.score(7, 0), 0);
        due("points of 15", x.score(15, 0), 2);
    }

    @Edge(promise = 13, says = "there is no such game: the free round is none")
    static void bookAFreeRound() {
        DrawBureau x = playersOf(3);
        x.pair();
        notBooked(x, 0, 1, 0);
        duePoints(x, 0, 2, 0);
        x.book(0, 0, 0);
        duePoints(x, 0, 2, 2);
    }

    @Edge(promise = 13, says = "games are numbered by their lesser player: the free round is none before them")
    static void bookBehindAFreeRound() {
        // Points 6 2 2 4 4; 0 is free, 1-2 and 3-4 are the games, 1 and 4 are white.
        DrawBureau x = played(5, "20", "02", "20");
        due("pair()", x.pair(), 2);
        due("opponent(0, 3)", x.opponent(0, 3), FREE);
        x.book(3, 0, 2);
        duePoints(x, 8, 4, 2, 4, 4);
        x.book(3, 1, 2);
        duePoints(x, 8, 4, 2, 4, 6);
        notBooked(x, 3, 2, 1);
    }

    @Edge(promise = 13, says = "games are numbered by their lesser player: those that are out have no number")
    static void bookWithPlayersOut() {
        DrawBureau x = playersOf(6);
        x.out(0);
        x.out(3);
        due("pair()", x.pair(), 2);
        // 1-4 and 2-5.
        x.book(0, 1, 2);
        duePoints(x, 0, 0, 2, 0, 0, 0);
        x.book(0, 0, 0);
        duePoints(x, 0, 0, 2, 0, 2, 0);
        notBooked(x, 0, 2, 1);
    }

    @Edge(promise = 13, says = "halves are not 0 .. 2: too small")
    static void bookTooFewHalves() {
        DrawBureau x = playersOf(2);
        x.pair();
        notBooked(x, 0, 0, -1);
        notBooked(x, 0, 0, -2);
        notBooked(x, 0, 0, MIN);
        wrongState("pair(), nothing was booked", x::pair);
        x.book(0, 0, 0);
        duePoints(x, 0, 2);
    }

    @Edge(promise = 13, says = "halves are not 0 .. 2: too large")
    static void bookTooManyHalves() {
        DrawBureau x = playersOf(2);
        x.pair();
        notBooked(x, 0, 0, 3);
        notBooked(x, 0, 0, 4);
        notBooked(x, 0, 0, MAX);
        wrongState("pair(), nothing was booked", x::pair);
        x.book(0, 0, 2);
        duePoints(x, 2, 0);
    }

    @Edge(promise = 13, says = "the white player makes so many halves, the black one the rest: half of them")
    static void bookADraw() {
        DrawBureau x = playersOf(2);
        x.pair();
        x.book(0, 0, 1);
        duePoints(x, 1, 1);
    }

    @Edge(promise = 13, says = "the white player makes so many: white is the greater number")
    static void bookForAWhiteOfGreaterNumber() {
        // In round 1 it is 0-1, and 1 is white.
        DrawBureau x = played(4, "22");
        x.pair();
        due("colour(1, 1)", x.colour(1, 1), 1);
        x.book(1, 0, 2);
        duePoints(x, 2, 4, 0, 0);
        x.book(1, 0, 0);
        duePoints(x, 4, 2, 0, 0);
    }

    @Edge(promise = 13, says = "or corrects: each result to each")
    static void bookCorrections() {
        DrawBureau x = playersOf(2);
        x.pair();
        int[] results = {0, 0, 1, 1, 2, 2, 0, 2, 1, 0};
        for (int halves : results) {
            x.book(0, 0, halves);
            duePoints(x, halves, 2 - halves);
            due("games won by 0", x.score(0, 4), halves == 2 ? 1 : 0);
            due("games won by 1", x.score(1, 4), halves == 0 ? 1 : 0);
        }
    }

    @Edge(promise = 13, says = "or corrects: a game of the first round, behind the last one")
    static void bookCorrectsTheFirstRound() {
        DrawBureau x = played(4, "22", "22", "22");
        duePoints(x, 2, 4, 4, 2);
        x.book(0, 0, 0);
        duePoints(x, 0, 4, 6, 2);
        noElement("pair()", x::pair);
    }

    @Edge(promise = 13, says = "or corrects: opponents and colours stay as they are")
    static void bookLeavesThePairing() {
        DrawBureau x = played(4, "22");
        x.pair();
        x.book(0, 0, 0);
        due("opponent(0, 1)", x.opponent(0, 1), 1);
        due("colour(0, 1)", x.colour(0, 1), 0);
        due("need of 0", x.score(0, 5), -1);
    }

    @Edge(promise = 13, says = "books a game of players that are out, too")
    static void bookForPlayersThatAreOut() {
        DrawBureau x = playersOf(2);
        x.pair();
        x.out(0);
        x.out(1);
        x.book(0, 0, 2);
        duePoints(x, 2, 0);
        x.book(0, 0, 0);
        duePoints(x, 0, 2);
    }

    @Edge(promise = 13, says = "there is no such round: behind players() the old ones are none")
    static void bookAnOldRound() {
        DrawBureau x = played(4, "22", "22");
        x.players(4);
        notBooked(x, 0, 0, 1);
        notBooked(x, 1, 0, 1);
        x.pair();
        notBooked(x, 1, 0, 1);
    }

    // ---- promise 14: out

    @Edge(promise = 14, says = "false, refused, when there is no such one: no players")
    static void outWithoutPlayers() {
        DrawBureau x = new DrawBureau();
        refused("out(0)", x.out(0));
        refused("out(-1)", x.out(-1));
        x.players(2);
        taken("out(0)", x.out(0));
    }

    @Edge(promise = 14, says = "false, refused, when there is no such one: too small")
    static void outBelow() {
        DrawBureau x = playersOf(4);
        for (int player : new int[] {-1, -2, -16, -32, MIN}) {
            refused("out(" + player + ")", x.out(player));
        }
        due("pair(), all are in", x.pair(), 2);
        taken("out(0)", x.out(0));
    }

    @Edge(promise = 14, says = "false, refused, when there is no such one: too large")
    static void outAbove() {
        DrawBureau x = playersOf(4);
        for (int player : new int[] {4, 5, 15, 16, 32, 35, 64, MAX}) {
            refused("out(" + player + ")", x.out(player));
        }
        due("pair(), all are in", x.pair(), 2);
        taken("out(3)", x.out(3));
    }

    @Edge(promise = 14, says = "false, refused, when there is no such one: behind the last of the most players")
    static void outOfSixteen() {
        DrawBureau x = playersOf(16);
        refused("out(16)", x.out(16));
        taken("out(15)", x.out(15));
        due("pair(), fifteen are in", x.pair(), 7);
    }

    @Edge(promise = 14, says = "false, refused, when it is out")
    static void outAgain() {
        DrawBureau x = playersOf(4);
        taken("out(2)", x.out(2));
        refused("out(2) again", x.out(2));
        x.pair();
        refused("out(2) behind a round", x.out(2));
        taken("out(1), another", x.out(1));
    }

    @Edge(promise = 14, says = "empty: all go out")
    static void outOfAll() {
        DrawBureau x = playersOf(3);
        taken("out(2)", x.out(2));
        taken("out(0)", x.out(0));
        taken("out(1)", x.out(1));
        refused("out(0) again", x.out(0));
        wrongState("pair()", x::pair);
        dueStandings(x, 0, 1, 2, NONE);
    }

    @Edge(promise = 14, says = "till the next players()")
    static void outTillPlayers() {
        DrawBureau x = playersOf(4);
        x.out(3);
        x.players(17);
        refused("out(3) behind refused players", x.out(3));
        x.players(4);
        due("pair(), all are in", x.pair(), 2);
        taken("out(3)", x.out(3));
    }

    @Edge(promise = 14, says = "a player goes out: what it played counts on")
    static void outKeepsItsResults() {
        DrawBureau x = played(4, "22");
        x.out(0);
        due("points of 0", x.score(0, 0), 2);
        due("sum of 2, its opponent", x.score(2, 2), 2);
        due("opponent(0, 0)", x.opponent(0, 0), 2);
        due("need of 0", x.score(0, 5), 3);
    }

    @Edge(promise = 14, says = "a player goes out: it gets no free round and no game any more")
    static void outGetsNothing() {
        DrawBureau x = playersOf(3);
        x.out(1);
        due("pair()", x.pair(), 1);
        due("opponent(1, 0)", x.opponent(1, 0), NONE);
        due("points of 1", x.score(1, 0), 0);
        due("opponent(0, 0)", x.opponent(0, 0), 2);
    }

    // ---- promise 15: standing

    @Edge(promise = 15, says = "NONE when there is no such place: no players")
    static void standingWithoutPlayers() {
        DrawBureau x = new DrawBureau();
        due("standing(0)", x.standing(0), NONE);
        due("standing(-1)", x.standing(-1), NONE);
        due("standing(1)", x.standing(1), NONE);
    }

    @Edge(promise = 15, says = "NONE when there is no such place: too small")
    static void standingBelow() {
        DrawBureau x = playersOf(2);
        due("standing(-1)", x.standing(-1), NONE);
        due("standing(MIN)", x.standing(MIN), NONE);
        due("standing(0)", x.standing(0), 0);
    }

    @Edge(promise = 15, says = "NONE when there is no such place: too large")
    static void standingAbove() {
        DrawBureau x = playersOf(2);
        due("standing(1)", x.standing(1), 1);
        due("standing(2)", x.standing(2), NONE);
        due("standing(15)", x.standing(15), NONE);
        due("standing(MAX)", x.standing(MAX), NONE);
        x.players(16);
        due("standing(15) of sixteen", x.standing(15), 15);
        due("standing(16) of sixteen", x.standing(16), NONE);
    }

    @Edge(promise = 15, says = "by more points, before all else")
    static void standingByPoints() {
        // Points 1 2 1, direct 1 0 1, sum 1 0 1.
        DrawBureau x = played(3, "1");
        dueStandings(x, 1, 0, 2, NONE);
    }

    @Edge(promise = 15, says = "then by more DIRECT points")
    static void standingByDirectPoints() {
        DrawBureau x = played(4, "10", "11");
        x.pair();
        x.book(2, 0, 0);
        // 1 and 3: points 3 each, direct 0 and 2, though sum 7 and 5, cut 2 and 0.
        dueScores(x, 1, 3, 0, 7, 2, 1);
        dueScores(x, 3, 3, 2, 5, 0, 1);
        dueStandings(x, 3, 1, 0, 2, NONE);
    }

    @Edge(promise = 15, says = "then by more SUM")
    static void standingBySum() {
        DrawBureau x = played(7, "012", "100");
        x.pair();
        x.book(2, 0, 2);
        // 0 and 6: points 3, direct 1 each, sum 6 and 7, though cut 2 and 0, games won 1 and 0.
        dueScores(x, 0, 3, 1, 6, 2, 1);
        dueScores(x, 6, 3, 1, 7, 0, 0);
        dueStandings(x, 2, 3, 6, 0, 1, 4, 5, NONE);
    }

    @Edge(promise = 15, says = "then by more CUT")
    static void standingByCut() {
        DrawBureau x = played(5, "01", "10", "01");
        x.pair();
        x.book(3, 0, 0);
        // 1 and 4: points 5, direct 1, sum 11 each, cut 0 and 3, though games won 1 and 0.
        dueScores(x, 1, 5, 1, 11, 0, 1);
        dueScores(x, 4, 5, 1, 11, 3, 0);
        dueStandings(x, 2, 4, 1, 3, 0, NONE);
    }

    @Edge(promise = 15, says = "then by more games won (the free round isn't one)")
    static void standingByGamesWon() {
        // 1 was free and 2 won: points 2, direct 0, sum 0, cut 0 each, games won 0 and 1.
        DrawBureau x = played(3, "0");
        dueScores(x, 1, 2, 0, 0, 0, 0);
        dueScores(x, 2, 2, 0, 0, 0, 1);
        dueStandings(x, 2, 1, 0, NONE);
    }

    @Edge(promise = 15, says = "then the lesser number")
    static void standingByNumber() {
        DrawBureau x = playersOf(16);
        dueStandings(x, 0, 1, 2, 3, 4, 5, 6, 7, 8, 9, 10, 11, 12, 13, 14, 15, NONE);
        playRound(x, 0, "11111111");
        dueStandings(x, 0, 1, 2, 3, 4, 5, 6, 7, 8, 9, 10, 11, 12, 13, 14, 15, NONE);
        for (int i = 0; i < 8; i++) {
            x.book(0, i, 0);
        }
        dueStandings(x, 8, 9, 10, 11, 12, 13, 14, 15, 0, 1, 2, 3, 4, 5, 6, 7, NONE);
    }

    @Edge(promise = 15, says = "a game that isn't booked counts nothing")
    static void standingWithAGameNotBooked() {
        DrawBureau x = played(4, "02");
        // Points 0 2 2 0: 1 stands before 2, 0 before 3.
        dueStandings(x, 1, 2, 0, 3, NONE);
        x.pair();
        dueStandings(x, 1, 2, 0, 3, NONE);
    }

    @Edge(promise = 15, says = "a FREE round 2: at once, without a booking")
    static void standingBehindAFreeRound() {
        DrawBureau x = playersOf(3);
        x.pair();
        dueStandings(x, 1, 0, 2, NONE);
    }

    @Edge(promise = 15, says = "players that went out stay in the standings")
    static void standingOfPlayersThatAreOut() {
        DrawBureau x = played(4, "20");
        dueStandings(x, 0, 3, 1, 2, NONE);
        x.out(0);
        x.out(2);
        dueStandings(x, 0, 3, 1, 2, NONE);
        x.out(1);
        x.out(3);
        dueStandings(x, 0, 3, 1, 2, NONE);
    }

    @Edge(promise = 15, says = "results that may be corrected: the standings follow")
    static void standingBehindACorrection() {
        DrawBureau x = played(2, "2");
        dueStandings(x, 0, 1, NONE);
        x.book(0, 0, 0);
        dueStandings(x, 1, 0, NONE);
        x.book(0, 0, 1);
        dueStandings(x, 0, 1, NONE);
    }

    // ---- promise 16: score

    @Edge(promise = 16, says = "0 when there is no such player: no players")
    static void scoreWithoutPlayers() {
        DrawBureau x = new DrawBureau();
        for (int what = -1; what <= 6; what++) {
            due("score(0, " + what + ")", x.score(0, what), 0);
        }
    }

    @Edge(promise = 16, says = "0 when there is no such player: too small, too large")
    static void scoreOfNoPlayer() {
        DrawBureau x = playersOf(3);
        playRound(x, 0, "0");
        for (int player : new int[] {MIN, -1, 3, 15, 16, MAX}) {
            dueScores(x, player, 0, 0, 0, 0, 0, 0);
        }
        dueScores(x, 2, 2, 0, 0, 0, 1, -3);
        x.players(16);
        playRound(x, 0, "00000000");
        dueScores(x, 15, 2, 0, 0, 0, 1, -3);
        dueScores(x, 16, 0, 0, 0, 0, 0, 0);
    }

    @Edge(promise = 16, says = "0 when there is no such what: too small, too large")
    static void scoreOfAnotherWhat() {
        DrawBureau x = played(4, "22", "22", "11");
        // Points 3 5 3 1: 1 met 3, 0 and 2, white, white, black.
        dueScores(x, 1, 5, 0, 7, 3, 2, 1);
        for (int what : new int[] {MIN, -2, -1, 6, 7, MAX}) {
            due("score(1, " + what + ")", x.score(1, what), 0);
        }
    }

    @Edge(promise = 16, says = "a game won is 2, drawn 1 each, a FREE round 2")
    static void scoreOfPoints() {
        DrawBureau x = playersOf(5);
        x.pair();
        duePoints(x, 0, 0, 2, 0, 0);
        x.book(0, 0, 2);
        x.book(0, 1, 1);
        duePoints(x, 2, 1, 2, 0, 1);
        x.pair();
        due("points of 2, free before", x.score(2, 0), 2);
    }

    @Edge(promise = 16, says = "DIRECT: in games against others that have as many points")
    static void scoreOfDirectPoints() {
        DrawBureau x = played(2, "1");
        due("direct of 0, drawn", x.score(0, 1), 1);
        due("direct of 1, drawn", x.score(1, 1), 1);
        x.book(0, 0, 2);
        due("direct of 0, which won and has more points", x.score(0, 1), 0);
        due("direct of 1", x.score(1, 1), 0);
    }

    @Edge(promise = 16, says = "DIRECT: the free round is no game against others")
    static void scoreOfDirectPointsBehindAFreeRound() {
        // 1 was free: points 2; 2 won against 0: points 2. They did not meet.
        DrawBureau x = played(3, "0");
        due("direct of 1", x.score(1, 1), 0);
        due("direct of 2", x.score(2, 1), 0);
        DrawBureau level = playersOf(3);
        level.pair();
        due("direct of 1, alone with 2 points", level.score(1, 1), 0);
    }

    @Edge(promise = 16, says = "DIRECT: a game that isn't booked counts nothing, of as many points either")
    static void scoreOfDirectPointsNotBooked() {
        DrawBureau x = playersOf(2);
        x.pair();
        due("direct of 0", x.score(0, 1), 0);
        due("direct of 1", x.score(1, 1), 0);
    }

    @Edge(promise = 16, says = "SUM of all games that are booked the points of the opponent: none is booked")
    static void scoreOfSum() {
        DrawBureau x = played(4, "22");
        // Points 2 2 0 0; 0 met 2, 1 met 3.
        due("sum of 0", x.score(0, 2), 0);
        due("sum of 2", x.score(2, 2), 2);
        x.pair();
        // 0-1 is not booked.
        due("sum of 0, not booked", x.score(0, 2), 0);
        x.book(1, 0, 1);
        due("sum of 0, booked", x.score(0, 2), 3);
        due("sum of 2, whose opponent made a point more", x.score(2, 2), 3);
    }

    @Edge(promise = 16, says = "SUM: a free round has no opponent; the opponent's free round counts")
    static void scoreOfSumBehindAFreeRound() {
        DrawBureau x = played(3, "2", "1");
        // Points 3 3 2: 0 met 2 and 1, 1 was free, 2 is free now.
        due("sum of 0", x.score(0, 2), 5);
        due("sum of 1", x.score(1, 2), 3);
        due("sum of 2", x.score(2, 2), 3);
    }

    @Edge(promise = 16, says = "CUT: 0 with fewer than three such games: none, one")
    static void scoreOfCutWithOneGame() {
        DrawBureau x = playersOf(2);
        due("cut of 1 without a game", x.score(1, 3), 0);
        playRound(x, 0, "2");
        due("sum of 1", x.score(1, 2), 2);
        due("cut of 1", x.score(1, 3), 0);
    }

    @Edge(promise = 16, says = "CUT: 0 with fewer than three such games: two")
    static void scoreOfCutWithTwoGames() {
        DrawBureau x = played(4, "22", "22");
        due("sum of 0", x.score(0, 2), 6);
        due("cut of 0", x.score(0, 3), 0);
    }

    @Edge(promise = 16, says = "CUT: 0 with fewer than three such games: the third is not booked")
    static void scoreOfCutWithAGameNotBooked() {
        DrawBureau x = played(4, "22", "22");
        x.pair();
        due("cut of 0, the third not booked", x.score(0, 3), 0);
        x.book(2, 0, 1);
        // Points 3 4 2 1: 0 met 2, 1 and 3.
        due("cut of 0, the third booked", x.score(0, 3), 2);
        due("cut of 1, the third not booked", x.score(1, 3), 0);
    }

    @Edge(promise = 16, says = "CUT: 0 with fewer than three such games: the free round is none")
    static void scoreOfCutWithAFreeRound() {
        DrawBureau x = played(3, "2", "2", "2");
        due("sum of 1", x.score(1, 2), x.score(0, 0) + x.score(2, 0));
        due("cut of 1", x.score(1, 3), 0);
    }

    @Edge(promise = 16, says = "CUT: SUM without the greatest and the least: all three are the same")
    static void scoreOfCutWithEqualOpponents() {
        DrawBureau x = played(4, "11", "11", "11");
        due("sum of 0", x.score(0, 2), 9);
        due("cut of 0", x.score(0, 3), 3);
    }

    @Edge(promise = 16, says = "CUT: SUM without the greatest and the least: of four games two are left")
    static void scoreOfCutWithFourGames() {
        DrawBureau x = played(5, "11", "11", "11", "11", "11");
        // Each has drawn four games and was free once: 6 points.
        due("points of 0", x.score(0, 0), 6);
        due("sum of 0", x.score(0, 2), 24);
        due("cut of 0", x.score(0, 3), 12);
    }

    @Edge(promise = 16, says = "games won: a draw, a loss and the free round are none")
    static void scoreOfGamesWon() {
        DrawBureau x = playersOf(5);
        x.pair();
        due("won by 2, which was free", x.score(2, 4), 0);
        x.book(0, 0, 0);
        x.book(0, 1, 1);
        due("won by 0, which lost", x.score(0, 4), 0);
        due("won by 3, as black", x.score(3, 4), 1);
        due("won by 1, which drew", x.score(1, 4), 0);
        due("won by 4, which drew", x.score(4, 4), 0);
    }

    @Edge(promise = 16, says = "NEED: 0 before the first game, and with a free round alone")
    static void needBeforeAGame() {
        DrawBureau x = playersOf(3);
        due("need of 0", x.score(0, 5), 0);
        x.pair();
        due("need of 1, which is free", x.score(1, 5), 0);
    }

    @Edge(promise = 16, says = "NEED: twice the balance, and 1 more if white, 1 less if black: one game, not booked")
    static void needBehindOneGame() {
        DrawBureau x = playersOf(2);
        x.pair();
        due("need of white", x.score(0, 5), 3);
        due("need of black", x.score(1, 5), -3);
        x.book(0, 0, 1);
        due("need of white, booked", x.score(0, 5), 3);
        due("need of black, booked", x.score(1, 5), -3);
    }

    @Edge(promise = 16, says = "NEED: a balance of 0, and the latest game counts")
    static void needOfBalancedColours() {
        // 0 white then black, 1 white twice, 2 black then white, 3 black twice.
        DrawBureau x = played(4, "22");
        x.pair();
        due("need of 0", x.score(0, 5), -1);
        due("need of 1", x.score(1, 5), 5);
        due("need of 2", x.score(2, 5), 1);
        due("need of 3", x.score(3, 5), -5);
    }

    @Edge(promise = 16, says = "NEED: the latest game, before a free round or rounds without a game")
    static void needBehindAFreeRound() {
        DrawBureau x = played(3, "2");
        x.pair();
        due("2 is free", x.opponent(2, 1), FREE);
        due("need of 2, black before", x.score(2, 5), -3);
        DrawBureau y = played(4, "22");
        y.out(1);
        y.pair();
        due("need of 1, out, white before", y.score(1, 5), 3);
    }

    @Edge(promise = 16, says = "each measure at its greatest: sixteen players, fifteen rounds")
    static void scoresOfTheLongestRun() {
        DrawBureau x = playersOf(16);
        for (int round = 0; round < 15; round++) {
            playRound(x, round, "11111111");
        }
        for (int player = 0; player < 16; player++) {
            due("points of " + player, x.score(player, 0), 15);
            due("direct of " + player, x.score(player, 1), 15);
            due("sum of " + player, x.score(player, 2), 225);
            due("cut of " + player, x.score(player, 3), 195);
            due("won by " + player, x.score(player, 4), 0);
            due("standing(" + player + ")", x.standing(player), player);
        }
    }

    public static void main(String[] args) {
        run(ResultEdgeTest.class, 13, 16);
    }
}
