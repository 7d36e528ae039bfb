import java.util.ArrayList;
import java.util.Arrays;
import java.util.List;
import java.util.NoSuchElementException;
import java.util.Random;

/**
 * Long runs of calls by seeds, each answer compared with that of a slow bureau which tries every
 * pairing and every naming there is, written down from the document and not from the class.
 */
public final class OracleTest {
    private static final int CALLS = 512;
    private static int wrong = 0;

    private static final int ILLEGAL_ARGUMENT = 1_000_001;
    private static final int ILLEGAL_STATE = 1_000_002;
    private static final int NO_SUCH_ELEMENT = 1_000_003;

    /** The bureau as the document tells it, in its plainest and slowest form. */
    private static final class SlowBureau {
        final List<int[]> wishes = new ArrayList<>();
        final List<int[]> twins = new ArrayList<>();
        int n = 0;
        List<List<int[]>> slotRounds = new ArrayList<>();
        int[] teamOf;

        int p = 0;
        boolean[] isOut;
        List<int[]> opponents = new ArrayList<>();
        List<boolean[]> whites = new ArrayList<>();
        /** What the white player made in a game, by its lesser player; -1 not booked. */
        List<int[]> booked = new ArrayList<>();
        int[] lastCost = {0, 0, 0};

        int treeN = 0;
        int treeRounds = 0;
        List<Integer> places = new ArrayList<>();
        List<int[]> winners = new ArrayList<>();

        static boolean join(List<int[]> couples, int a, int b) {
            if (a == b || a < 0 || a > 15 || b < 0 || b > 15) return false;
            for (int[] c : couples) {
                if (c[0] == a || c[1] == a || c[0] == b || c[1] == b) return false;
            }
            couples.add(new int[] {a, b});
            return true;
        }

        boolean drop(int what) {
            if (what == 0) wishes.clear();
            if (what == 1) twins.clear();
            return what == 0 || what == 1;
        }

        int table(int newN, int halves) {
            if (newN < 4 || newN > 16 || newN % 2 == 1 || (halves != 1 && halves != 2)) return ILLEGAL_ARGUMENT;
            for (int[] w : wishes) {
                if (w[0] >= newN || w[1] >= newN) return ILLEGAL_STATE;
            }
            n = newN;
            slotRounds = new ArrayList<>();
            for (int r = 0; r < n - 1; r++) {
                List<int[]> games = new ArrayList<>();
                games.add(r % 2 == 0 ? new int[] {r, n - 1} : new int[] {n - 1, r});
                for (int k = 1; k <= n / 2 - 1; k++) {
                    int plus = (r + k) % (n - 1);
                    int minus = (r - k + n - 1) % (n - 1);
                    games.add(k % 2 == 1 ? new int[] {plus, minus} : new int[] {minus, plus});
                }
                games.sort((x, y) -> Math.min(x[0], x[1]) - Math.min(y[0], y[1]));
                slotRounds.add(games);
            }
            nameSlots();
            if (halves == 2) {
                for (int r = 0; r < n - 1; r++) {
                    List<int[]> games = new ArrayList<>();
                    for (int[] g : slotRounds.get(r)) games.add(new int[] {g[1], g[0]});
                    slotRounds.add(games);
                }
            }
            return slotRounds.size();
        }

        void nameSlots() {
            teamOf = new int[n];
            Arrays.fill(teamOf, -1);
            List<Integer> others = new ArrayList<>();
            for (int t = 0; t < n; t++) others.add(t);
            for (int w = 0; w < wishes.size(); w++) {
                int[] g = slotRounds.get(0).get(w);
                teamOf[Math.min(g[0], g[1])] = wishes.get(w)[0];
                teamOf[Math.max(g[0], g[1])] = wishes.get(w)[1];
                others.remove((Integer) wishes.get(w)[0]);
                others.remove((Integer) wishes.get(w)[1]);
            }
            for (int s = 0; s < n; s++) {
                if (teamOf[s] < 0) teamOf[s] = others.remove(0);
            }
        }

        int game(int round, int i, int side) {
            if (n == 0 || round < 0 || round >= slotRounds.size() || i < 0 || i >= n / 2 || side < 0 || side > 1) return -1;
            return teamOf[slotRounds.get(round).get(i)[side]];
        }

        boolean home(int[] naming, int team, int round) {
            for (int[] g : slotRounds.get(round)) {
                if (naming[g[0]] == team) return true;
            }
            return false;
        }

        int breaks() {
            int count = 0;
            for (int r = 1; r < n - 1; r++) {
                for (int t = 0; t < n; t++) {
                    if (home(teamOf, t, r) == home(teamOf, t, r - 1)) count++;
                }
            }
            return count;
        }

        int clashes(int[] naming) {
            int count = 0;
            for (int[] t : twins) {
                if (t[0] >= n || t[1] >= n) continue;
                for (int r = 0; r < n - 1; r++) {
                    if (home(naming, t[0], r) && home(naming, t[1], r)) count++;
                }
            }
            return count;
        }

        int leastClashes(int[] naming, int slot, int least) {
            if (slot == n) return Math.min(least, clashes(naming));
            int found = least;
            for (int k = slot; k < n; k++) {
                swap(naming, slot, k);
                found = leastClashes(naming, slot + 1, found);
                swap(naming, slot, k);
            }
            return found;
        }

        static void swap(int[] row, int i, int k) {
            int kept = row[i];
            row[i] = row[k];
            row[k] = kept;
        }

        int measure(int what) {
            if (n == 0) return -1;
            if (what == 0) return breaks();
            if (what == 1) return clashes(teamOf);
            if (what == 2 && n <= 8) return leastClashes(teamOf.clone(), 0, Integer.MAX_VALUE);
            return -1;
        }

        boolean players(int newP) {
            if (newP < 2 || newP > 16) return false;
            p = newP;
            isOut = new boolean[p];
            opponents = new ArrayList<>();
            whites = new ArrayList<>();
            booked = new ArrayList<>();
            lastCost = new int[] {0, 0, 0};
            return true;
        }

        int points(int player) {
            if (player == 16) return 0;
            int sum = 0;
            for (int r = 0; r < opponents.size(); r++) {
                if (opponents.get(r)[player] == 16) sum += 2;
                if (isBookedGame(player, r)) sum += made(player, r);
            }
            return sum;
        }

        boolean isGame(int player, int r) {
            int o = opponents.get(r)[player];
            return o >= 0 && o < 16;
        }

        boolean isBookedGame(int player, int r) {
            return isGame(player, r) && booked.get(r)[Math.min(player, opponents.get(r)[player])] >= 0;
        }

        int made(int player, int r) {
            int ofWhite = booked.get(r)[Math.min(player, opponents.get(r)[player])];
            return whites.get(r)[player] ? ofWhite : 2 - ofWhite;
        }

        int need(int player) {
            if (player == 16) return 0;
            int white = 0;
            int black = 0;
            int extra = 0;
            for (int r = 0; r < opponents.size(); r++) {
                if (!isGame(player, r)) continue;
                if (whites.get(r)[player]) white++;
                else black++;
                extra = whites.get(r)[player] ? 1 : -1;
            }
            return 2 * (white - black) + extra;
        }

        boolean met(int a, int b) {
            for (int[] row : opponents) {
                if (row[a] == b) return true;
            }
            return false;
        }

        int[] bestMates;
        int[] bestCost;
        int[][] pointsAndNeeds;

        void tryAll(int[] mates, int[] cost) {
            int first = -1;
            for (int a = p - 1; a >= 0; a--) {
                if (!isOut[a] && mates[a] < 0) {
                    first = a;
                }
            }
            if (first < 0) {
                boolean less = bestCost == null || Arrays.compare(cost, bestCost) < 0
                    || Arrays.compare(cost, bestCost) == 0 && Arrays.compare(mates, bestMates) < 0;
                if (less) {
                    bestCost = cost.clone();
                    bestMates = mates.clone();
                }
                return;
            }
            // From the last one down, so that the class cannot agree by going the same way.
            for (int b = 16; b > first; b--) {
                boolean can = b == 16 ? mates[16] == -2 : b < p && !isOut[b] && mates[b] < 0;
                if (!can || met(first, b)) continue;
                int[] added = pairCost(first, b);
                mates[first] = b;
                int kept = mates[b];
                mates[b] = b == 16 ? -3 : first;
                for (int k = 0; k < 3; k++) cost[k] += added[k];
                tryAll(mates, cost);
                for (int k = 0; k < 3; k++) cost[k] -= added[k];
                mates[b] = kept;
                mates[first] = -1;
            }
        }

        int[] pairCost(int a, int b) {
            int apart = pointsAndNeeds[0][a] - pointsAndNeeds[0][b];
            int x = pointsAndNeeds[1][a];
            int y = pointsAndNeeds[1][b];
            int second = x > 0 && y > 0 ? Math.min(x, y) : x < 0 && y < 0 ? Math.min(-x, -y) : 0;
            return new int[] {apart * apart, second, 16 - Math.abs(a - b)};
        }

        int pair() {
            if (p == 0) return ILLEGAL_STATE;
            int in = 0;
            for (boolean o : isOut) in += o ? 0 : 1;
            for (int a = 0; a < p && !opponents.isEmpty(); a++) {
                int last = opponents.size() - 1;
                if (isGame(a, last) && !isBookedGame(a, last)) return ILLEGAL_STATE;
            }
            if (in < 2) return ILLEGAL_STATE;
            pointsAndNeeds = new int[2][17];
            for (int a = 0; a < p; a++) {
                pointsAndNeeds[0][a] = points(a);
                pointsAndNeeds[1][a] = need(a);
            }
            int[] mates = new int[17];
            Arrays.fill(mates, -1);
            mates[16] = in % 2 == 1 ? -2 : -3;
            bestCost = null;
            tryAll(mates, new int[3]);
            if (bestCost == null) return NO_SUCH_ELEMENT;
            boolean[] white = new boolean[16];
            for (int a = 0; a < p; a++) {
                int b = bestMates[a];
                if (b < 0 || b == 16) continue;
                int x = pointsAndNeeds[1][a];
                int y = pointsAndNeeds[1][b];
                if (x < y) white[a] = true;
                if (x == y && a < b && x <= 0) white[a] = true;
                if (x == y && a > b && x > 0) white[a] = true;
            }
            lastCost = bestCost;
            opponents.add(Arrays.copyOf(bestMates, 16));
            whites.add(white);
            int[] results = new int[16];
            Arrays.fill(results, -1);
            booked.add(results);
            return in / 2;
        }

        boolean has(int player, int round) {
            return player >= 0 && player < p && round >= 0 && round < opponents.size();
        }

        int opponent(int player, int round) {
            return has(player, round) ? opponents.get(round)[player] : -1;
        }

        int colour(int player, int round) {
            return has(player, round) && isGame(player, round) ? (whites.get(round)[player] ? 1 : 0) : -1;
        }

        int book(int round, int i, int halves) {
            if (round < 0 || round >= opponents.size() || i < 0 || halves < 0 || halves > 2) return ILLEGAL_ARGUMENT;
            List<Integer> lesser = new ArrayList<>();
            for (int a = 0; a < p; a++) {
                if (isGame(a, round) && opponents.get(round)[a] > a) lesser.add(a);
            }
            if (i >= lesser.size()) return ILLEGAL_ARGUMENT;
            booked.get(round)[lesser.get(i)] = halves;
            return 0;
        }

        boolean out(int player) {
            if (player < 0 || player >= p || isOut[player]) return false;
            isOut[player] = true;
            return true;
        }

        int score(int player, int what) {
            if (player < 0 || player >= p) return 0;
            int direct = 0;
            int won = 0;
            int sum = 0;
            List<Integer> theirs = new ArrayList<>();
            for (int r = 0; r < opponents.size(); r++) {
                if (!isBookedGame(player, r)) continue;
                int other = points(opponents.get(r)[player]);
                theirs.add(other);
                sum += other;
                if (other == points(player)) direct += made(player, r);
                if (made(player, r) == 2) won++;
            }
            theirs.sort(null);
            int cut = 0;
            for (int k = 1; k < theirs.size() - 1; k++) cut += theirs.get(k);
            int[] all = {points(player), direct, sum, cut, won, need(player)};
            return what < 0 || what > 5 ? 0 : all[what];
        }

        int standing(int place) {
            if (place < 0 || place >= p) return -1;
            List<Integer> order = new ArrayList<>();
            for (int a = 0; a < p; a++) order.add(a);
            order.sort((a, b) -> {
                for (int what = 0; what < 5; what++) {
                    int c = score(b, what) - score(a, what);
                    if (c != 0) return c;
                }
                return a - b;
            });
            return order.get(place);
        }

        int tree(int newN) {
            if (newN < 2 || newN > 64) return ILLEGAL_ARGUMENT;
            treeN = newN;
            places = new ArrayList<>(List.of(0));
            treeRounds = 0;
            while (places.size() < newN) {
                List<Integer> twice = new ArrayList<>();
                for (int x : places) {
                    twice.add(x);
                    twice.add(2 * places.size() - 1 - x);
                }
                places = twice;
                treeRounds++;
            }
            winners = new ArrayList<>();
            for (int r = 0; r < treeRounds; r++) {
                int[] row = new int[places.size() >> r + 1];
                Arrays.fill(row, -1);
                winners.add(row);
            }
            return treeRounds;
        }

        int node(int round, int i, int side) {
            if (round < 0 || round >= treeRounds || i < 0 || i >= winners.get(round).length || side < 0 || side > 2) return -1;
            if (side == 2) {
                if (round == 0 && node(0, i, 1) < 0) return node(0, i, 0);
                if (round == 0 && node(0, i, 0) < 0) return node(0, i, 1);
                return winners.get(round)[i];
            }
            if (round == 0) return places.get(2 * i + side) < treeN ? places.get(2 * i + side) : -1;
            return node(round - 1, 2 * i + side, 2);
        }

        boolean win(int round, int i, boolean second) {
            int a = node(round, i, 0);
            int b = node(round, i, 1);
            if (a < 0 || b < 0) return false;
            winners.get(round)[i] = second ? b : a;
            int loser = second ? a : b;
            for (int r = round + 1; r < treeRounds; r++) {
                for (int k = 0; k < winners.get(r).length; k++) {
                    if (winners.get(r)[k] == loser) winners.get(r)[k] = -1;
                }
            }
            return true;
        }
    }

    private static void due(long seed, String call, int got, int want) {
        if (got != want) {
            wrong++;
            if (wrong < 20) System.out.println("seed " + seed + ": " + call + " answered " + got + ", due is " + want);
        }
    }

    private static void due(long seed, String call, boolean got, boolean want) {
        due(seed, call, got ? 1 : 0, want ? 1 : 0);
    }

    private static int tabled(DrawBureau x, int n, int halves) {
        try {
            return x.table(n, halves);
        } catch (IllegalArgumentException e) {
            return ILLEGAL_ARGUMENT;
        } catch (IllegalStateException e) {
            return ILLEGAL_STATE;
        }
    }

    private static int paired(DrawBureau x) {
        try {
            return x.pair();
        } catch (IllegalStateException e) {
            return ILLEGAL_STATE;
        } catch (NoSuchElementException e) {
            return NO_SUCH_ELEMENT;
        }
    }

    private static int booked(DrawBureau x, int round, int i, int halves) {
        try {
            x.book(round, i, halves);
            return 0;
        } catch (IllegalArgumentException e) {
            return ILLEGAL_ARGUMENT;
        }
    }

    private static int grown(DrawBureau x, int n) {
        try {
            return x.tree(n);
        } catch (IllegalArgumentException e) {
            return ILLEGAL_ARGUMENT;
        }
    }

    /** Mostly from a range and a little beyond it, at times far away. */
    private static int near(Random random, int from, int to) {
        if (random.nextInt(60) == 0) {
            int[] far = {Integer.MIN_VALUE, Integer.MAX_VALUE, -17, 33, 1 << 16, 1 << 28};
            return far[random.nextInt(far.length)];
        }
        return from + random.nextInt(to - from + 1);
    }

    private static void tableRun(long seed) {
        Random random = new Random(seed);
        DrawBureau x = new DrawBureau();
        SlowBureau slow = new SlowBureau();
        int bound = 4 + random.nextInt(14);
        for (int call = 0; call < CALLS; call++) {
            int a = near(random, -1, bound);
            int b = near(random, -1, bound);
            int c = near(random, -1, 2);
            switch (random.nextInt(12)) {
                case 0: due(seed, "wish " + a + " " + b, x.wish(a, b), SlowBureau.join(slow.wishes, a, b)); break;
                case 1: due(seed, "twins " + a + " " + b, x.twins(a, b), SlowBureau.join(slow.twins, a, b)); break;
                case 2: if (random.nextInt(6) == 0) due(seed, "drop " + c, x.drop(c), slow.drop(c)); break;
                case 3: due(seed, "table " + a + " " + c, tabled(x, a, c), slow.table(a, c)); break;
                case 4: {
                    int what = near(random, -1, 3);
                    // Eight teams have 40320 namings: now and then is enough.
                    if (what != 2 || slow.n != 8 || random.nextInt(12) == 0) due(seed, "measure " + what, x.measure(what), slow.measure(what));
                    break;
                }
                default: {
                    int round = near(random, -1, 30);
                    int i = near(random, -1, 8);
                    due(seed, "game " + round + " " + i + " " + c, x.game(round, i, c), slow.game(round, i, c));
                }
            }
        }
    }

    private static void comparePairedRounds(long seed, DrawBureau x, SlowBureau slow) {
        for (int what = -1; what < 4; what++) {
            due(seed, "cost " + what, x.cost(what), what < 0 || what > 2 ? 0 : slow.lastCost[what]);
        }
        for (int player = -1; player < 18; player++) {
            due(seed, "standing " + player, x.standing(player), slow.standing(player));
            for (int what = -1; what < 7; what++) {
                due(seed, "score " + player + " " + what, x.score(player, what), slow.score(player, what));
            }
            for (int round = -1; round < 17; round++) {
                due(seed, "opponent " + player + " " + round, x.opponent(player, round), slow.opponent(player, round));
                due(seed, "colour " + player + " " + round, x.colour(player, round), slow.colour(player, round));
            }
        }
    }

    private static void pairedRun(long seed, int most, int steps) {
        Random random = new Random(seed);
        DrawBureau x = new DrawBureau();
        SlowBureau slow = new SlowBureau();
        due(seed, "pair", paired(x), slow.pair());
        int outs = random.nextInt(3) == 0 ? 4 : 40;
        for (int step = 0; step < steps; step++) {
            if (step == 0 || random.nextInt(25) == 0) {
                int p = near(random, most > 10 ? most - 1 : 1, most);
                due(seed, "players " + p, x.players(p), slow.players(p));
            }
            if (random.nextInt(outs) == 0) {
                int player = near(random, -1, most);
                due(seed, "out " + player, x.out(player), slow.out(player));
            }
            due(seed, "pair", paired(x), slow.pair());
            int latest = slow.opponents.size() - 1;
            int left = random.nextInt(12) == 0 ? 1 : 0;
            for (int i = left; i < 8; i++) {
                int halves = near(random, 0, 2);
                due(seed, "book " + latest + " " + i + " " + halves, booked(x, latest, i, halves), slow.book(latest, i, halves));
            }
            int round = near(random, -1, latest + 1);
            int i = near(random, -1, 8);
            int halves = near(random, -1, 3);
            due(seed, "book " + round + " " + i + " " + halves, booked(x, round, i, halves), slow.book(round, i, halves));
            comparePairedRounds(seed, x, slow);
        }
    }

    private static void treeRun(long seed) {
        Random random = new Random(seed);
        DrawBureau x = new DrawBureau();
        SlowBureau slow = new SlowBureau();
        int most = random.nextBoolean() ? 9 : 65;
        for (int call = 0; call < CALLS; call++) {
            int round = near(random, -1, most == 9 ? 4 : 6);
            int i = near(random, -1, most == 9 ? 4 : 32 >> Math.max(0, Math.min(5, round)));
            if (call % 150 == 0 || random.nextInt(150) == 0) {
                int n = near(random, 0, most);
                due(seed, "tree " + n, grown(x, n), slow.tree(n));
            } else if (random.nextBoolean()) {
                boolean second = random.nextBoolean();
                due(seed, "win " + round + " " + i + " " + second, x.win(round, i, second), slow.win(round, i, second));
            } else {
                int side = near(random, -1, 3);
                due(seed, "node " + round + " " + i + " " + side, x.node(round, i, side), slow.node(round, i, side));
            }
        }
        for (int round = -1; round < 7; round++) {
            for (int i = -1; i < 33; i++) {
                for (int side = 0; side < 3; side++) {
                    due(seed, "node " + round + " " + i + " " + side, x.node(round, i, side), slow.node(round, i, side));
                }
            }
        }
    }

    public static void main(String[] args) {
        for (long seed = 1; seed <= 150; seed++) {
            tableRun(seed);
            treeRun(seed);
            pairedRun(seed, 2 + (int) (seed % 9), 30);
        }
        for (long seed = 201; seed <= 212; seed++) {
            pairedRun(seed, 12, 12);
        }
        pairedRun(301, 14, 5);
        // Steps enough for each round that there can be, and one more.
        for (long seed = 302; seed <= 306; seed++) {
            pairedRun(seed, 16, 17);
        }
        System.out.println(wrong == 0 ? "all answers are as due" : wrong + " answers are not as due");
        if (wrong != 0) {
            System.exit(1);
        }
    }
}
