/** The edges of wishes, twins and full tables: promises 2 to 7. */
public final class TableEdgeTest extends Edges {
    private static DrawBureau tableOf(int n, int halves) {
        DrawBureau x = new DrawBureau();
        x.table(n, halves);
        return x;
    }

    private static void dueGame(DrawBureau x, int round, int i, int home, int away) {
        due("game(" + round + ", " + i + ", 0)", x.game(round, i, 0), home);
        due("game(" + round + ", " + i + ", 1)", x.game(round, i, 1), away);
    }

    private static void noGame(DrawBureau x, int round, int i) {
        dueGame(x, round, i, NONE, NONE);
    }

    /** All games of a round, as home-away home-away ... */
    private static void dueRound(DrawBureau x, int round, int games, String want) {
        StringBuilder got = new StringBuilder();
        for (int i = 0; i < games; i++) {
            got.append(i == 0 ? "" : " ").append(x.game(round, i, 0)).append("-").append(x.game(round, i, 1));
        }
        due("round " + round, got.toString(), want);
    }

    // ---- promise 2: wish

    @Edge(promise = 2, says = "false, refused, when a and b are the same")
    static void wishOfATeamWithItself() {
        DrawBureau x = new DrawBureau();
        for (int team = 0; team < 16; team++) {
            refused("wish(" + team + ", " + team + ")", x.wish(team, team));
        }
        taken("wish(0, 1), not the same", x.wish(0, 1));
        taken("wish(15, 14), not the same", x.wish(15, 14));
    }

    @Edge(promise = 2, says = "one is not 0 .. 15: too small")
    static void wishBelowTheFirstTeam() {
        DrawBureau x = new DrawBureau();
        refused("wish(-1, 5)", x.wish(-1, 5));
        refused("wish(5, -1)", x.wish(5, -1));
        refused("wish(-1, -1)", x.wish(-1, -1));
        refused("wish(-1, -2)", x.wish(-1, -2));
        taken("wish(0, 5)", x.wish(0, 5));
    }

    @Edge(promise = 2, says = "one is not 0 .. 15: the least as the second one")
    static void wishOfTheFirstTeamAsSecond() {
        DrawBureau x = new DrawBureau();
        taken("wish(5, 0)", x.wish(5, 0));
    }

    @Edge(promise = 2, says = "one is not 0 .. 15: too large")
    static void wishAboveTheLastTeam() {
        DrawBureau x = new DrawBureau();
        refused("wish(16, 5)", x.wish(16, 5));
        refused("wish(5, 16)", x.wish(5, 16));
        refused("wish(16, 16)", x.wish(16, 16));
        refused("wish(16, 17)", x.wish(16, 17));
        taken("wish(15, 5)", x.wish(15, 5));
    }

    @Edge(promise = 2, says = "one is not 0 .. 15: the greatest as the second one")
    static void wishOfTheLastTeamAsSecond() {
        DrawBureau x = new DrawBureau();
        taken("wish(5, 15)", x.wish(5, 15));
    }

    @Edge(promise = 2, says = "one is not 0 .. 15: far off")
    static void wishFarOutside() {
        DrawBureau x = new DrawBureau();
        for (int far : new int[] {MIN, MIN + 1, -32, -16, 31, 32, 33, 64, 256, 65536, MAX - 1, MAX}) {
            refused("wish(" + far + ", 1)", x.wish(far, 1));
            refused("wish(1, " + far + ")", x.wish(1, far));
        }
    }

    @Edge(promise = 2, says = "or is in a wish already: the first one")
    static void wishOfTheFirstOfAWish() {
        DrawBureau x = new DrawBureau();
        x.wish(3, 8);
        refused("wish(3, 4)", x.wish(3, 4));
        refused("wish(4, 3)", x.wish(4, 3));
    }

    @Edge(promise = 2, says = "or is in a wish already: the second one")
    static void wishOfTheSecondOfAWish() {
        DrawBureau x = new DrawBureau();
        x.wish(3, 8);
        refused("wish(8, 4)", x.wish(8, 4));
        refused("wish(4, 8)", x.wish(4, 8));
    }

    @Edge(promise = 2, says = "or is in a wish already: the same wish again")
    static void wishMadeAgain() {
        DrawBureau x = new DrawBureau();
        x.wish(0, 15);
        refused("wish(0, 15) again", x.wish(0, 15));
        refused("wish(15, 0), turned", x.wish(15, 0));
    }

    @Edge(promise = 2, says = "or is in a wish already: not just in the latest one")
    static void wishOfATeamOfAnEarlierWish() {
        DrawBureau x = new DrawBureau();
        x.wish(3, 8);
        x.wish(0, 15);
        x.wish(1, 2);
        refused("wish(3, 4)", x.wish(3, 4));
        refused("wish(4, 8)", x.wish(4, 8));
        refused("wish(15, 4)", x.wish(15, 4));
        refused("wish(4, 0)", x.wish(4, 0));
        taken("wish(4, 5)", x.wish(4, 5));
    }

    @Edge(promise = 2, says = "or is in a wish already: not in twins")
    static void wishOfTwins() {
        DrawBureau x = new DrawBureau();
        x.twins(3, 8);
        taken("wish(3, 8) of twins", x.wish(3, 8));
    }

    @Edge(promise = 2, says = "full: each team is in a wish")
    static void wishWhenAllTeamsAreTaken() {
        DrawBureau x = new DrawBureau();
        for (int team = 0; team < 8; team++) {
            taken("wish(" + team + ", " + (15 - team) + ")", x.wish(team, 15 - team));
        }
        for (int team = 0; team < 15; team++) {
            refused("wish(" + team + ", " + (team + 1) + ")", x.wish(team, team + 1));
        }
    }

    @Edge(promise = 2, says = "for tables to come: the table that stands stays")
    static void wishBehindATable() {
        DrawBureau x = tableOf(4, 1);
        taken("wish(3, 2)", x.wish(3, 2));
        dueRound(x, 0, 2, "0-3 1-2");
        x.table(4, 1);
        dueRound(x, 0, 2, "3-2 0-1");
        x.table(4, 2);
        dueRound(x, 0, 2, "3-2 0-1");
    }

    @Edge(promise = 2, says = "0 .. 15, whatever table there is")
    static void wishBeyondTheTableThatStands() {
        DrawBureau x = tableOf(4, 1);
        taken("wish(4, 15)", x.wish(4, 15));
    }

    // ---- promise 3: twins

    @Edge(promise = 3, says = "refused, likewise: a and b are the same")
    static void twinsOfATeamWithItself() {
        DrawBureau x = new DrawBureau();
        for (int team = 0; team < 16; team++) {
            refused("twins(" + team + ", " + team + ")", x.twins(team, team));
        }
        taken("twins(0, 1), not the same", x.twins(0, 1));
        taken("twins(15, 14), not the same", x.twins(15, 14));
    }

    @Edge(promise = 3, says = "refused, likewise: one is not 0 .. 15: too small")
    static void twinsBelowTheFirstTeam() {
        DrawBureau x = new DrawBureau();
        refused("twins(-1, 5)", x.twins(-1, 5));
        refused("twins(5, -1)", x.twins(5, -1));
        refused("twins(-1, -2)", x.twins(-1, -2));
        taken("twins(0, 5)", x.twins(0, 5));
    }

    @Edge(promise = 3, says = "refused, likewise: the least as the second one")
    static void twinsOfTheFirstTeamAsSecond() {
        DrawBureau x = new DrawBureau();
        taken("twins(5, 0)", x.twins(5, 0));
    }

    @Edge(promise = 3, says = "refused, likewise: one is not 0 .. 15: too large")
    static void twinsAboveTheLastTeam() {
        DrawBureau x = new DrawBureau();
        refused("twins(16, 5)", x.twins(16, 5));
        refused("twins(5, 16)", x.twins(5, 16));
        refused("twins(16, 17)", x.twins(16, 17));
        taken("twins(15, 5)", x.twins(15, 5));
    }

    @Edge(promise = 3, says = "refused, likewise: the greatest as the second one")
    static void twinsOfTheLastTeamAsSecond() {
        DrawBureau x = new DrawBureau();
        taken("twins(5, 15)", x.twins(5, 15));
    }

    @Edge(promise = 3, says = "refused, likewise: far off")
    static void twinsFarOutside() {
        DrawBureau x = new DrawBureau();
        for (int far : new int[] {MIN, MIN + 1, -32, -16, 31, 32, 33, 64, 256, 65536, MAX - 1, MAX}) {
            refused("twins(" + far + ", 1)", x.twins(far, 1));
            refused("twins(1, " + far + ")", x.twins(1, far));
        }
    }

    @Edge(promise = 3, says = "refused, likewise (of twins): one is in twins already")
    static void twinsOfATeamThatIsTaken() {
        DrawBureau x = new DrawBureau();
        x.twins(3, 8);
        refused("twins(3, 4)", x.twins(3, 4));
        refused("twins(4, 3)", x.twins(4, 3));
        refused("twins(8, 4)", x.twins(8, 4));
        refused("twins(4, 8)", x.twins(4, 8));
        refused("twins(3, 8) again", x.twins(3, 8));
        refused("twins(8, 3), turned", x.twins(8, 3));
    }

    @Edge(promise = 3, says = "refused, likewise (of twins): not just of the latest ones")
    static void twinsOfATeamOfEarlierTwins() {
        DrawBureau x = new DrawBureau();
        x.twins(3, 8);
        x.twins(0, 15);
        x.twins(1, 2);
        refused("twins(3, 4)", x.twins(3, 4));
        refused("twins(4, 8)", x.twins(4, 8));
        refused("twins(15, 4)", x.twins(15, 4));
        refused("twins(4, 0)", x.twins(4, 0));
        taken("twins(4, 5)", x.twins(4, 5));
    }

    @Edge(promise = 3, says = "likewise (of twins): not in a wish")
    static void twinsOfAWish() {
        DrawBureau x = new DrawBureau();
        x.wish(3, 8);
        taken("twins(3, 8) of a wish", x.twins(3, 8));
    }

    @Edge(promise = 3, says = "full: each team is in twins")
    static void twinsWhenAllTeamsAreTaken() {
        DrawBureau x = new DrawBureau();
        for (int team = 0; team < 8; team++) {
            taken("twins(" + team + ", " + (15 - team) + ")", x.twins(team, 15 - team));
        }
        for (int team = 0; team < 15; team++) {
            refused("twins(" + team + ", " + (team + 1) + ")", x.twins(team, team + 1));
        }
    }

    // ---- promise 4: drop

    @Edge(promise = 4, says = "false, refused, for another what: too small")
    static void dropBelow() {
        DrawBureau x = new DrawBureau();
        refused("drop(-1)", x.drop(-1));
        refused("drop(MIN)", x.drop(MIN));
        taken("drop(0)", x.drop(0));
    }

    @Edge(promise = 4, says = "false, refused, for another what: too large")
    static void dropAbove() {
        DrawBureau x = new DrawBureau();
        refused("drop(2)", x.drop(2));
        refused("drop(MAX)", x.drop(MAX));
        taken("drop(1)", x.drop(1));
    }

    @Edge(promise = 4, says = "empty: there is nothing to drop")
    static void dropOfNothing() {
        DrawBureau x = new DrawBureau();
        taken("drop(0) without wishes", x.drop(0));
        taken("drop(1) without twins", x.drop(1));
        taken("drop(0) again", x.drop(0));
        taken("drop(1) again", x.drop(1));
    }

    @Edge(promise = 4, says = "wishes (what 0) are all gone: full ones")
    static void dropOfAllWishes() {
        DrawBureau x = new DrawBureau();
        for (int team = 0; team < 16; team += 2) {
            x.wish(team + 1, team);
        }
        x.drop(0);
        x.table(16, 1);
        dueRound(x, 0, 8, "0-15 1-14 13-2 3-12 11-4 5-10 9-6 7-8");
        for (int team = 0; team < 16; team += 2) {
            taken("wish of " + team + " behind drop(0)", x.wish(team, team + 1));
        }
    }

    @Edge(promise = 4, says = "twins (1) are all gone: full ones")
    static void dropOfAllTwins() {
        DrawBureau x = tableOf(16, 1);
        for (int team = 0; team < 16; team += 2) {
            x.twins(team + 1, team);
        }
        x.drop(1);
        due("measure(1) behind drop(1)", x.measure(1), 0);
        for (int team = 0; team < 16; team += 2) {
            taken("twins of " + team + " behind drop(1)", x.twins(team, team + 1));
        }
    }

    @Edge(promise = 4, says = "wishes or twins: the twins stay with 0")
    static void dropOfWishesLeavesTwins() {
        DrawBureau x = tableOf(4, 1);
        x.twins(0, 1);
        x.drop(0);
        refused("twins(0, 2)", x.twins(0, 2));
        due("measure(1)", x.measure(1), 1);
    }

    @Edge(promise = 4, says = "wishes or twins: the wishes stay with 1")
    static void dropOfTwinsLeavesWishes() {
        DrawBureau x = new DrawBureau();
        x.wish(3, 2);
        x.drop(1);
        refused("wish(3, 0)", x.wish(3, 0));
        x.table(4, 1);
        dueRound(x, 0, 2, "3-2 0-1");
    }

    @Edge(promise = 4, says = "wishes are gone for tables to come alone")
    static void dropLeavesTheTable() {
        DrawBureau x = new DrawBureau();
        x.wish(3, 2);
        x.table(4, 1);
        x.drop(0);
        dueRound(x, 0, 2, "3-2 0-1");
        x.table(4, 1);
        dueRound(x, 0, 2, "0-3 1-2");
    }

    // ---- promise 5: table

    @Edge(promise = 5, says = "n 4 .. 16: too small")
    static void tableOfTooFew() {
        DrawBureau x = new DrawBureau();
        for (int n : new int[] {3, 2, 1, 0, -1, -2, -4, -16, MIN + 1, MIN}) {
            wrongArgument("table(" + n + ", 1)", () -> x.table(n, 1));
            wrongArgument("table(" + n + ", 2)", () -> x.table(n, 2));
        }
        due("table(4, 1)", x.table(4, 1), 3);
    }

    @Edge(promise = 5, says = "n 4 .. 16: too large")
    static void tableOfTooMany() {
        DrawBureau x = new DrawBureau();
        for (int n : new int[] {17, 18, 20, 32, 36, 1 << 16, 1 << 30, MAX - 1, MAX}) {
            wrongArgument("table(" + n + ", 1)", () -> x.table(n, 1));
            wrongArgument("table(" + n + ", 2)", () -> x.table(n, 2));
        }
        due("table(16, 1)", x.table(16, 1), 15);
    }

    @Edge(promise = 5, says = "n 4 .. 16 and even")
    static void tableOfAnOddNumber() {
        DrawBureau x = new DrawBureau();
        for (int n = 5; n <= 15; n += 2) {
            int odd = n;
            wrongArgument("table(" + odd + ", 1)", () -> x.table(odd, 1));
            due("table(" + (n - 1) + ", 1)", x.table(n - 1, 1), n - 2);
            due("table(" + (n + 1) + ", 1)", x.table(n + 1, 1), n);
        }
    }

    @Edge(promise = 5, says = "of 1 or 2 halves: too small")
    static void tableOfTooFewHalves() {
        DrawBureau x = new DrawBureau();
        for (int halves : new int[] {0, -1, -2, MIN}) {
            wrongArgument("table(4, " + halves + ")", () -> x.table(4, halves));
        }
        due("table(4, 1)", x.table(4, 1), 3);
    }

    @Edge(promise = 5, says = "of 1 or 2 halves: too large")
    static void tableOfTooManyHalves() {
        DrawBureau x = new DrawBureau();
        for (int halves : new int[] {3, 4, MAX}) {
            wrongArgument("table(4, " + halves + ")", () -> x.table(4, halves));
        }
        due("table(4, 2)", x.table(4, 2), 6);
    }

    @Edge(promise = 5, says = "how many rounds: 0 .. n - 2, with two halves to 2 n - 3")
    static void tableTellsItsRounds() {
        DrawBureau x = new DrawBureau();
        due("table(4, 1)", x.table(4, 1), 3);
        due("table(4, 2)", x.table(4, 2), 6);
        due("table(16, 1)", x.table(16, 1), 15);
        due("table(16, 2)", x.table(16, 2), 30);
    }

    @Edge(promise = 5, says = "a wish has a team from n on: n itself as the first one")
    static void tableWithAWishOfTeamN() {
        DrawBureau x = new DrawBureau();
        x.wish(4, 0);
        wrongState("table(4, 1)", () -> x.table(4, 1));
        due("table(6, 1)", x.table(6, 1), 5);
    }

    @Edge(promise = 5, says = "a wish has a team from n on: n itself as the second one")
    static void tableWithAWishAgainstTeamN() {
        DrawBureau x = new DrawBureau();
        x.wish(0, 4);
        wrongState("table(4, 2)", () -> x.table(4, 2));
        due("table(6, 2)", x.table(6, 2), 10);
    }

    @Edge(promise = 5, says = "a wish has a team from n on: n - 1 is none such")
    static void tableWithAWishOfTheLastTeam() {
        DrawBureau x = new DrawBureau();
        x.wish(3, 0);
        due("table(4, 1)", x.table(4, 1), 3);
        dueRound(x, 0, 2, "3-0 1-2");
    }

    @Edge(promise = 5, says = "a wish has a team from n on: the greatest team of all")
    static void tableWithAWishOfTeam15() {
        DrawBureau x = new DrawBureau();
        x.wish(15, 0);
        for (int n = 4; n <= 14; n += 2) {
            int fewer = n;
            wrongState("table(" + fewer + ", 1)", () -> x.table(fewer, 1));
        }
        due("table(16, 1)", x.table(16, 1), 15);
        dueGame(x, 0, 0, 15, 0);
        dueGame(x, 0, 1, 1, 14);
    }

    @Edge(promise = 5, says = "a wish has a team from n on: a later wish than the first")
    static void tableWithALaterWishBeyond() {
        DrawBureau x = new DrawBureau();
        x.wish(0, 1);
        x.wish(2, 6);
        wrongState("table(6, 1)", () -> x.table(6, 1));
        due("table(8, 1)", x.table(8, 1), 7);
    }

    @Edge(promise = 5, says = "a wish, not twins, has a team from n on")
    static void tableWithTwinsBeyond() {
        DrawBureau x = new DrawBureau();
        x.twins(4, 15);
        due("table(4, 1)", x.table(4, 1), 3);
    }

    @Edge(promise = 5, says = "n or halves are not as said: before a wish is looked at")
    static void tableWithWrongArgumentsAndAWishBeyond() {
        DrawBureau x = new DrawBureau();
        x.wish(14, 15);
        wrongArgument("table(5, 1)", () -> x.table(5, 1));
        wrongArgument("table(2, 1)", () -> x.table(2, 1));
        wrongArgument("table(4, 3)", () -> x.table(4, 3));
        wrongArgument("table(4, 0)", () -> x.table(4, 0));
        wrongState("table(4, 1)", () -> x.table(4, 1));
    }

    @Edge(promise = 5, says = "with the wishes as they are: dropped ones are none")
    static void tableBehindDrop() {
        DrawBureau x = new DrawBureau();
        x.wish(0, 9);
        x.drop(0);
        due("table(8, 1)", x.table(8, 1), 7);
        dueRound(x, 0, 4, "0-7 1-6 5-2 3-4");
    }

    @Edge(promise = 5, says = "names: at first each in that of its number (no wishes)")
    static void tableWithoutWishes() {
        dueRound(tableOf(4, 1), 0, 2, "0-3 1-2");
        dueRound(tableOf(16, 1), 0, 8, "0-15 1-14 13-2 3-12 11-4 5-10 9-6 7-8");
    }

    @Edge(promise = 5, says = "the wishes in the order of being made get the games of round 0: full ones")
    static void tableWithWishesForAllGames() {
        DrawBureau x = new DrawBureau();
        x.wish(1, 3);
        x.wish(2, 0);
        x.table(4, 1);
        // Slots: 1 2 0 3.
        dueRound(x, 0, 2, "1-3 2-0");
        dueRound(x, 1, 2, "0-1 3-2");
        dueRound(x, 2, 2, "1-2 0-3");
    }

    @Edge(promise = 5, says = "the wishes get the games of round 0: full ones of the largest table")
    static void largestTableWithWishesForAllGames() {
        DrawBureau x = new DrawBureau();
        for (int team = 15; team > 0; team -= 2) {
            x.wish(team, team - 1);
        }
        x.table(16, 1);
        dueRound(x, 0, 8, "15-14 13-12 10-11 9-8 6-7 5-4 2-3 1-0");
    }

    @Edge(promise = 5, says = "the wishes get the games of round 0: full ones, rising")
    static void largestTableWithRisingWishes() {
        DrawBureau x = new DrawBureau();
        for (int team = 0; team < 16; team += 2) {
            x.wish(team, team + 1);
        }
        x.table(16, 1);
        dueRound(x, 0, 8, "0-1 2-3 5-4 6-7 9-8 10-11 13-12 14-15");
    }

    @Edge(promise = 5, says = "the wishes get the games of round 0: one game is left")
    static void tableWithOneGameLeft() {
        DrawBureau x = new DrawBureau();
        x.wish(5, 2);
        x.wish(0, 1);
        x.table(6, 1);
        // Slots: 5 0 3 4 1 2.
        dueRound(x, 0, 3, "5-2 0-1 4-3");
        dueRound(x, 1, 3, "3-5 2-0 1-4");
        dueRound(x, 4, 3, "5-4 3-0 1-2");
    }

    @Edge(promise = 5, says = "the team told first in the lesser slot")
    static void tableWithAGreaterTeamToldFirst() {
        DrawBureau x = new DrawBureau();
        x.wish(3, 2);
        x.table(4, 1);
        // Slots: 3 0 1 2.
        dueRound(x, 0, 2, "3-2 0-1");
        dueRound(x, 1, 2, "1-3 2-0");
        dueRound(x, 2, 2, "3-0 1-2");
    }

    @Edge(promise = 5, says = "the other teams, in rising order, what slots are left, in rising order")
    static void tableWithOneWishOfMany() {
        DrawBureau x = new DrawBureau();
        x.wish(2, 5);
        x.table(8, 1);
        // Slots: 2 0 1 3 4 6 7 5.
        dueRound(x, 0, 4, "2-5 0-7 6-1 3-4");
    }

    @Edge(promise = 5, says = "a table: the one before is no more, a smaller one either")
    static void tableAfterALargerOne() {
        DrawBureau x = tableOf(16, 2);
        x.table(4, 1);
        dueRound(x, 2, 2, "0-1 2-3");
        noGame(x, 3, 0);
        noGame(x, 29, 0);
        noGame(x, 0, 2);
        noGame(x, 0, 7);
        due("measure(0)", x.measure(0), 2);
        due("measure(2)", x.measure(2), 0);
    }

    @Edge(promise = 5, says = "a table: the one before is no more, a larger one either")
    static void tableAfterASmallerOne() {
        DrawBureau x = tableOf(4, 1);
        x.table(16, 2);
        dueRound(x, 14, 8, "0-13 12-1 2-11 10-3 4-9 8-5 6-7 14-15");
        dueRound(x, 29, 8, "13-0 1-12 11-2 3-10 9-4 5-8 7-6 15-14");
        due("measure(0)", x.measure(0), 14);
    }

    // ---- promise 6: game

    @Edge(promise = 6, says = "none such: no table")
    static void gameWithoutATable() {
        DrawBureau x = new DrawBureau();
        noGame(x, 0, 0);
        x.wish(0, 1);
        wrongArgument("table(3, 1)", () -> x.table(3, 1));
        noGame(x, 0, 0);
    }

    @Edge(promise = 6, says = "none such: before the first round")
    static void gameBeforeTheFirstRound() {
        DrawBureau x = tableOf(4, 2);
        noGame(x, -1, 0);
        noGame(x, -1, 1);
        noGame(x, MIN, 0);
        dueGame(x, 0, 0, 0, 3);
    }

    @Edge(promise = 6, says = "none such: behind the last round of one half, n - 2")
    static void gameBehindTheLastRoundOfOneHalf() {
        DrawBureau small = tableOf(4, 1);
        dueGame(small, 2, 0, 0, 1);
        noGame(small, 3, 0);
        DrawBureau large = tableOf(16, 1);
        dueGame(large, 14, 0, 0, 13);
        noGame(large, 15, 0);
        noGame(large, MAX, 0);
    }

    @Edge(promise = 6, says = "none such: behind the last round of two halves, 2 n - 3")
    static void gameBehindTheLastRoundOfTwoHalves() {
        DrawBureau small = tableOf(4, 2);
        dueGame(small, 5, 0, 1, 0);
        noGame(small, 6, 0);
        DrawBureau large = tableOf(16, 2);
        dueGame(large, 29, 0, 13, 0);
        noGame(large, 30, 0);
        noGame(large, MAX, 0);
    }

    @Edge(promise = 6, says = "none such: before the first game")
    static void gameBeforeTheFirst() {
        DrawBureau x = tableOf(4, 2);
        noGame(x, 0, -1);
        noGame(x, 5, -1);
        noGame(x, 0, MIN);
    }

    @Edge(promise = 6, says = "none such: behind the last game, n / 2 - 1")
    static void gameBehindTheLast() {
        DrawBureau small = tableOf(4, 2);
        dueGame(small, 0, 1, 1, 2);
        noGame(small, 0, 2);
        noGame(small, 5, 2);
        DrawBureau large = tableOf(16, 1);
        dueGame(large, 0, 7, 7, 8);
        noGame(large, 0, 8);
        noGame(large, 14, 8);
        noGame(large, 0, MAX);
    }

    @Edge(promise = 6, says = "side 0, 1: too small, too large")
    static void gameOfAnotherSide() {
        DrawBureau x = tableOf(4, 2);
        for (int side : new int[] {MIN, -2, -1, 2, 3, MAX}) {
            due("game(0, 0, " + side + ")", x.game(0, 0, side), NONE);
            due("game(3, 1, " + side + ")", x.game(3, 1, side), NONE);
        }
        dueGame(x, 3, 1, 2, 1);
    }

    @Edge(promise = 6, says = "slot r + k by n - 1: wraps to 0")
    static void gameWrapsAbove() {
        DrawBureau x = tableOf(16, 1);
        // k = 7: in round 7 slot 14 meets 0 without a wrap, in round 8 slot 15 is slot 0.
        dueGame(x, 7, 0, 14, 0);
        dueGame(x, 8, 0, 0, 1);
        // k = 1: in round 13 slot 14, in round 14 slot 0.
        dueGame(x, 13, 6, 14, 12);
        dueGame(x, 14, 0, 0, 13);
        DrawBureau small = tableOf(4, 1);
        dueGame(small, 1, 0, 2, 0);
        dueGame(small, 2, 0, 0, 1);
    }

    @Edge(promise = 6, says = "slot r - k by n - 1: wraps to n - 2")
    static void gameWrapsBelow() {
        DrawBureau x = tableOf(16, 1);
        // k = 1: in round 1 slot 0, in round 0 slot 14.
        dueGame(x, 1, 0, 2, 0);
        dueGame(x, 0, 1, 1, 14);
        // k = 7: in round 7 slot 0, in round 6 slot 14.
        dueGame(x, 7, 0, 14, 0);
        dueGame(x, 6, 7, 13, 14);
        DrawBureau small = tableOf(4, 1);
        dueGame(small, 1, 0, 2, 0);
        dueGame(small, 0, 1, 1, 2);
    }

    @Edge(promise = 6, says = "home is r + k, if k is odd, else r - k: the least and the greatest k")
    static void gameAtHomeByK() {
        DrawBureau x = tableOf(6, 1);
        // n = 6: k is 1 or 2.
        dueGame(x, 2, 1, 3, 1);
        dueGame(x, 2, 0, 0, 4);
        DrawBureau large = tableOf(16, 1);
        dueGame(large, 7, 6, 8, 6);
        dueGame(large, 7, 5, 5, 9);
        dueGame(large, 7, 1, 1, 13);
        dueGame(large, 7, 0, 14, 0);
    }

    @Edge(promise = 6, says = "slot r, if r is even, else slot n - 1: the first and the last rounds")
    static void gameOfTheLastSlot() {
        DrawBureau x = tableOf(16, 1);
        dueGame(x, 0, 0, 0, 15);
        dueGame(x, 1, 1, 15, 1);
        dueGame(x, 13, 7, 15, 13);
        dueGame(x, 14, 7, 14, 15);
        DrawBureau small = tableOf(4, 1);
        dueGame(small, 0, 0, 0, 3);
        dueGame(small, 1, 1, 3, 1);
        dueGame(small, 2, 1, 2, 3);
    }

    @Edge(promise = 6, says = "games are numbered from 0 on by their lesser slot, not by their team")
    static void gamesGoBySlots() {
        DrawBureau x = new DrawBureau();
        x.wish(5, 4);
        x.table(6, 1);
        // Slots: 5 0 1 2 3 4.
        dueRound(x, 0, 3, "5-4 0-3 2-1");
        dueRound(x, 1, 3, "1-5 4-0 3-2");
        dueRound(x, 4, 3, "5-2 1-0 3-4");
    }

    @Edge(promise = 6, says = "rounds n - 1 .. 2 n - 3: the sides changed, the first and the last of them")
    static void gameOfTheSecondHalf() {
        DrawBureau x = tableOf(4, 2);
        dueRound(x, 2, 2, "0-1 2-3");
        dueRound(x, 3, 2, "3-0 2-1");
        dueRound(x, 4, 2, "0-2 1-3");
        dueRound(x, 5, 2, "1-0 3-2");
        DrawBureau large = tableOf(16, 2);
        dueRound(large, 15, 8, "15-0 14-1 2-13 12-3 4-11 10-5 6-9 8-7");
        dueRound(large, 29, 8, "13-0 1-12 11-2 3-10 9-4 5-8 7-6 15-14");
    }

    @Edge(promise = 6, says = "each meets each: once in a half, for each n")
    static void gamesOfAHalf() {
        for (int n = 4; n <= 16; n += 2) {
            DrawBureau x = tableOf(n, 1);
            boolean[] met = new boolean[256];
            int pairs = 0;
            for (int round = 0; round < n - 1; round++) {
                for (int i = 0; i < n / 2; i++) {
                    int lesser = Math.min(x.game(round, i, 0), x.game(round, i, 1));
                    int greater = Math.max(x.game(round, i, 0), x.game(round, i, 1));
                    if (lesser >= 0 && lesser < greater && greater < n && !met[lesser * 16 + greater]) {
                        met[lesser * 16 + greater] = true;
                        pairs++;
                    }
                }
            }
            due("pairs of " + n, pairs, n * (n - 1) / 2);
        }
    }

    // ---- promise 7: measure

    @Edge(promise = 7, says = "NONE without a table")
    static void measureWithoutATable() {
        DrawBureau x = new DrawBureau();
        x.twins(0, 1);
        x.wish(0, 1);
        for (int what = -1; what <= 3; what++) {
            due("measure(" + what + ")", x.measure(what), NONE);
        }
        x.table(4, 1);
        due("measure(0) with a table", x.measure(0), 2);
    }

    @Edge(promise = 7, says = "NONE for another what: too small, too large")
    static void measureOfAnotherWhat() {
        DrawBureau x = tableOf(4, 1);
        for (int what : new int[] {MIN, -2, -1, 3, 4, MAX}) {
            due("measure(" + what + ")", x.measure(what), NONE);
        }
        due("measure(0)", x.measure(0), 2);
        due("measure(2)", x.measure(2), 0);
    }

    @Edge(promise = 7, says = "BREAKS: over the rounds of the first half, for the least and the greatest n")
    static void breaksOfEachSize() {
        for (int n = 4; n <= 16; n += 2) {
            due("breaks of " + n, tableOf(n, 1).measure(0), n - 2);
        }
    }

    @Edge(promise = 7, says = "BREAKS: the second half does not count")
    static void breaksOfTwoHalves() {
        due("breaks of 4", tableOf(4, 2).measure(0), 2);
        due("breaks of 16", tableOf(16, 2).measure(0), 14);
    }

    @Edge(promise = 7, says = "BREAKS: names do not matter")
    static void breaksWithWishes() {
        DrawBureau x = new DrawBureau();
        x.wish(3, 0);
        x.wish(1, 7);
        x.table(8, 1);
        due("breaks", x.measure(0), 6);
    }

    @Edge(promise = 7, says = "CLASHES: empty, no twins")
    static void clashesWithoutTwins() {
        due("clashes of 4", tableOf(4, 1).measure(1), 0);
        due("clashes of 16", tableOf(16, 2).measure(1), 0);
    }

    @Edge(promise = 7, says = "both are at home in the same round: the first round of the half")
    static void clashInTheFirstRound() {
        DrawBureau x = tableOf(4, 1);
        // At home: 0 in rounds 0 and 2, 1 in round 0.
        x.twins(0, 1);
        due("measure(1)", x.measure(1), 1);
    }

    @Edge(promise = 7, says = "both are at home in the same round: the last round of the half")
    static void clashInTheLastRound() {
        DrawBureau x = tableOf(4, 1);
        // At home: 0 in rounds 0 and 2, 2 in rounds 1 and 2.
        x.twins(2, 0);
        due("measure(1)", x.measure(1), 1);
    }

    @Edge(promise = 7, says = "of the first half: both away in it are both at home in the second, no clash")
    static void clashInTheSecondHalf() {
        DrawBureau x = tableOf(4, 2);
        // At home: 1 in round 0, 3 in round 1; both are away in round 2, so at home in round 5.
        x.twins(1, 3);
        due("measure(1)", x.measure(1), 0);
    }

    @Edge(promise = 7, says = "not playing against each other")
    static void clashOfTwinsThatMeet() {
        DrawBureau x = tableOf(4, 2);
        x.twins(0, 3);
        x.twins(1, 2);
        due("measure(1)", x.measure(1), 0);
    }

    @Edge(promise = 7, says = "twins with a team from n on count none: n - 1 and n as the second one")
    static void clashesAtTheLastTeam() {
        DrawBureau x = tableOf(4, 1);
        x.twins(2, 3);
        due("clashes of 2 and 3", x.measure(1), 1);
        x.drop(1);
        x.twins(2, 4);
        due("clashes of 2 and 4 of four", x.measure(1), 0);
        x.table(6, 1);
        // At home: 2 in rounds 1, 2 and 4, 4 in rounds 1, 3 and 4.
        due("clashes of 2 and 4 of six", x.measure(1), 2);
    }

    @Edge(promise = 7, says = "twins with a team from n on count none: n - 1 and n as the first one")
    static void clashesAtTheLastTeamToldFirst() {
        DrawBureau x = tableOf(4, 1);
        x.twins(3, 2);
        due("clashes of 3 and 2", x.measure(1), 1);
        x.drop(1);
        x.twins(4, 2);
        due("clashes of 4 and 2 of four", x.measure(1), 0);
        x.table(6, 1);
        due("clashes of 4 and 2 of six", x.measure(1), 2);
    }

    @Edge(promise = 7, says = "twins with a team from n on count none: both from n on, to the last one")
    static void clashesOfTeamsBeyond() {
        DrawBureau x = tableOf(14, 1);
        x.twins(14, 15);
        due("clashes of fourteen", x.measure(1), 0);
        x.table(16, 1);
        // At home: 14 in rounds 1 3 5 7 9 11 13 14, 15 in rounds 1 3 5 7 9 11 13.
        due("clashes of sixteen", x.measure(1), 7);
    }

    @Edge(promise = 7, says = "CLASHES: full, all teams are twins")
    static void clashesOfAllTeams() {
        DrawBureau x = tableOf(4, 1);
        x.twins(0, 1);
        x.twins(2, 3);
        due("clashes of four", x.measure(1), 2);
        DrawBureau large = tableOf(16, 1);
        for (int team = 0; team < 16; team += 2) {
            large.twins(team, team + 1);
        }
        // One clash of each couple, in the round where the lesser one meets the last slot; 14 and 15 have 7.
        due("clashes of sixteen", large.measure(1), 14);
    }

    @Edge(promise = 7, says = "CLASHES go by teams, not by slots")
    static void clashesWithWishes() {
        DrawBureau x = new DrawBureau();
        x.twins(0, 2);
        x.table(4, 1);
        due("clashes by their numbers", x.measure(1), 1);
        x.wish(0, 2);
        x.table(4, 1);
        due("clashes in slots 0 and 3", x.measure(1), 0);
    }

    @Edge(promise = 7, says = "LEAST CLASHES, for n to 8; NONE with n above 8")
    static void leastClashesOfEachSize() {
        for (int n = 4; n <= 16; n += 2) {
            DrawBureau x = tableOf(n, 1);
            due("least without twins, of " + n, x.measure(2), n <= 8 ? 0 : NONE);
            x.twins(0, 1);
            due("least with twins, of " + n, x.measure(2), n <= 8 ? 0 : NONE);
        }
    }

    @Edge(promise = 7, says = "the least number over all namings: full, all teams are twins")
    static void leastClashesOfAllTeams() {
        DrawBureau x = new DrawBureau();
        for (int team = 0; team < 16; team += 2) {
            x.twins(team, team + 1);
        }
        for (int n = 4; n <= 8; n += 2) {
            x.table(n, 2);
            due("least of " + n, x.measure(2), 0);
        }
        x.table(10, 2);
        due("least of 10", x.measure(2), NONE);
    }

    @Edge(promise = 7, says = "LEAST CLASHES: wishes don't count")
    static void leastClashesWithWishes() {
        DrawBureau x = new DrawBureau();
        // The wishes put 0 and 1 into the slots 0 and 1, which clash in round 0.
        x.wish(0, 3);
        x.wish(1, 2);
        x.twins(0, 1);
        x.table(4, 1);
        due("clashes", x.measure(1), 1);
        due("least clashes", x.measure(2), 0);
    }

    public static void main(String[] args) {
        run(TableEdgeTest.class, 2, 7);
    }
}
