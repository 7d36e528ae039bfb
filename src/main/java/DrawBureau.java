import java.util.NoSuchElementException;

/** A bureau for tournaments: full tables, paired rounds with standings, and trees. */
public final class DrawBureau {
    /** None: what there is not. */
    public static final int NONE = -1;

    /** The most teams of a table and the most players of paired rounds. */
    private static final int MOST = 16;
    /** The opponent that stands for a free round. */
    private static final int FREE = 16;
    private static final int LEAST_TEAMS = 4;
    private static final int LEAST_PLAYERS = 2;
    private static final int MOST_IN_TREE = 64;

    private final Couples wishes;
    private final Couples twinned;
    private final FullTable fullTable;
    private final PairedRounds paired;
    private final Knockout knockout;

    /** No table, no players, no tree; no wishes, no twins. */
    public DrawBureau() {
        wishes = new Couples();
        twinned = new Couples();
        fullTable = new FullTable();
        paired = new PairedRounds();
        knockout = new Knockout();
    }

    /** Wishes two teams to meet in round 0 of the tables to come; false when refused. */
    public boolean wish(int a, int b) {
        return wishes.join(a, b);
    }

    /** Lets two teams share a venue; false when refused. */
    public boolean twins(int a, int b) {
        return twinned.join(a, b);
    }

    /** Forgets all wishes (0) or all twins (1); false when refused. */
    public boolean drop(int what) {
        if (what == 0) {
            wishes.forget();
            return true;
        }
        if (what == 1) {
            twinned.forget();
            return true;
        }
        return false;
    }

    /** Makes a full table for n teams of one or two halves, and tells how many rounds it has. */
    public int table(int n, int halves) throws IllegalArgumentException, IllegalStateException {
        if (n < LEAST_TEAMS || n > MOST || (n & 1) != 0) {
            throw new IllegalArgumentException("the number of teams is not even and 4 .. 16");
        }
        if (halves < 1 || halves > 2) {
            throw new IllegalArgumentException("the halves are not 1 or 2");
        }
        if (wishes.reach(n)) {
            throw new IllegalStateException("a wish has a team that the table has not");
        }
        return fullTable.draw(n, halves, wishes);
    }

    /** The team at home (side 0) or the other one (1) of a game of the table. */
    public int game(int round, int i, int side) {
        return fullTable.teamAt(round, i, side);
    }

    /** Of the table: breaks (0), clashes (1), least clashes (2). */
    public int measure(int what) {
        switch (what) {
            case 0:
                return fullTable.breaks();
            case 1:
                return fullTable.clashes(twinned);
            case 2:
                return fullTable.leastClashes(twinned);
            default:
                return NONE;
        }
    }

    /** Begins paired rounds with p players; false when refused. */
    public boolean players(int p) {
        if (p < LEAST_PLAYERS || p > MOST) {
            return false;
        }
        paired.begin(p);
        return true;
    }

    /** Pairs a round at the least cost, and tells how many games it has. */
    public int pair() throws IllegalStateException, NoSuchElementException {
        if (paired.playersIn() < LEAST_PLAYERS) {
            throw new IllegalStateException("fewer than two players are in");
        }
        if (!paired.isBooked()) {
            throw new IllegalStateException("a game of the latest round is not booked");
        }
        if (!paired.findPairing()) {
            throw new NoSuchElementException("there is no such pairing");
        }
        return paired.addRound();
    }

    /** One of the three numbers of the cost of the pairing made last. */
    public int cost(int what) {
        return paired.costPart(what);
    }

    /** The opponent of a player in a round, 16 with a free round. */
    public int opponent(int player, int round) {
        return paired.rivalOf(player, round);
    }

    /** 1 when a player was white in a round, 0 when black. */
    public int colour(int player, int round) {
        return paired.colourOf(player, round);
    }

    /** Books, or corrects, a game: what the white player makes of its two halves. */
    public void book(int round, int i, int halves) throws IllegalArgumentException {
        if (halves < 0 || halves > 2) {
            throw new IllegalArgumentException("the halves are not 0 .. 2");
        }
        if (!paired.enterResult(round, i, halves)) {
            throw new IllegalArgumentException("there is no such round or game");
        }
    }

    /** Lets a player go out; false when refused. */
    public boolean out(int player) {
        return paired.leave(player);
    }

    /** Who stands in a place of the standings, 0 the first. */
    public int standing(int place) {
        return paired.playerInPlace(place);
    }

    /** Of a player: points (0), direct (1), sum (2), cut (3), games won (4), need (5). */
    public int score(int player, int what) {
        return paired.scoreOf(player, what);
    }

    /** Makes a tree for n players, and tells how many rounds it has. */
    public int tree(int n) throws IllegalArgumentException {
        if (n < LEAST_PLAYERS || n > MOST_IN_TREE) {
            throw new IllegalArgumentException("the number of players is not 2 .. 64");
        }
        return knockout.grow(n);
    }

    /** Of a game of the tree: its first side (0), its second (1), its winner (2). */
    public int node(int round, int i, int side) {
        return knockout.playerAt(round, i, side);
    }

    /** Tells who won a game of the tree; false when refused. */
    public boolean win(int round, int i, boolean second) {
        return knockout.decide(round, i, second);
    }

    /** Couples of numbers 0 .. 15, no number in two of them, in the order of being made. */
    private static final class Couples {
        private final int[] firsts = new int[MOST / 2];
        private final int[] seconds = new int[MOST / 2];
        private int count;
        /** A bit for each number that is in a couple. */
        private int taken;

        boolean join(int a, int b) {
            if (a == b || !isSingle(a) || !isSingle(b) || count >= firsts.length) {
                return false;
            }
            firsts[count] = a;
            seconds[count] = b;
            count++;
            taken |= 1 << a | 1 << b;
            return true;
        }

        void forget() {
            count = 0;
            taken = 0;
        }

        int size() {
            return count;
        }

        int firstOf(int couple) {
            return couple >= 0 && couple < count ? firsts[couple] : NONE;
        }

        int secondOf(int couple) {
            return couple >= 0 && couple < count ? seconds[couple] : NONE;
        }

        /** Whether a number of n or more is in a couple. */
        boolean reach(int n) {
            return taken >> n != 0;
        }

        private boolean isSingle(int number) {
            return number >= 0 && number < MOST && (taken >> number & 1) == 0;
        }
    }

    /** A table in which each team meets each. */
    private static final class FullTable {
        /** The most teams for which the least clashes are told. */
        private static final int MOST_TO_SEARCH = 8;
        /** More than the clashes of any table. */
        private static final int TOO_MANY = 1000;

        private final int[] teamOfSlot = new int[MOST];
        private final int[] slotOfTeam = new int[MOST];
        /** For each slot a bit for each round of the first half in which it is at home. */
        private final int[] homes = new int[MOST];
        /** 0 as long as there is no table. */
        private int teams;
        private int rounds;

        int draw(int n, int halves, Couples wishes) {
            teams = n;
            rounds = (n - 1) * halves;
            giveNames(wishes);
            for (int slot = 0; slot < teams; slot++) {
                homes[slot] = homeRounds(slot);
            }
            return rounds;
        }

        int teamAt(int round, int i, int side) {
            if (round < 0 || round >= rounds || i < 0 || i >= teams / 2 || side < 0 || side > 1) {
                return NONE;
            }
            boolean secondHalf = round >= teams - 1;
            int base = secondHalf ? round - (teams - 1) : round;
            int lesser = lesserSlot(base, i);
            if (lesser == NONE) {
                return NONE;
            }
            boolean lesserIsAsked = isHome(lesser, base) == ((side == 0) != secondHalf);
            return teamOfSlot[lesserIsAsked ? lesser : rivalSlot(lesser, base)];
        }

        int breaks() {
            if (teams == 0) {
                return NONE;
            }
            int compared = (1 << (teams - 2)) - 1;
            int count = 0;
            for (int slot = 0; slot < teams; slot++) {
                int changes = homes[slot] ^ (homes[slot] >> 1);
                count += Integer.bitCount(~changes & compared);
            }
            return count;
        }

        int clashes(Couples twins) {
            if (teams == 0) {
                return NONE;
            }
            int count = 0;
            for (int i = 0; i < twins.size(); i++) {
                if (isInTable(twins, i)) {
                    count += clashesOf(slotOfTeam[twins.firstOf(i)], slotOfTeam[twins.secondOf(i)]);
                }
            }
            return count;
        }

        /** Which twins stand in which slots is free, so that only their number counts. */
        int leastClashes(Couples twins) {
            if (teams == 0 || teams > MOST_TO_SEARCH) {
                return NONE;
            }
            int count = 0;
            for (int i = 0; i < twins.size(); i++) {
                if (isInTable(twins, i)) {
                    count++;
                }
            }
            return leastFrom(0, 0, count);
        }

        /** The least clashes of so many twins in slots from the one told on that are not used. */
        private int leastFrom(int slot, int used, int twinsLeft) {
            if (twinsLeft <= 0) {
                return 0;
            }
            if (slot + 2 * twinsLeft > teams) {
                return TOO_MANY;
            }
            int least = leastFrom(slot + 1, used, twinsLeft);
            if ((used >> slot & 1) != 0) {
                return least;
            }
            for (int other = slot + 1; other < teams && least > 0; other++) {
                if ((used >> other & 1) == 0) {
                    int rest = leastFrom(slot + 1, used | 1 << other, twinsLeft - 1);
                    least = Math.min(least, clashesOf(slot, other) + rest);
                }
            }
            return least;
        }

        private boolean isInTable(Couples twins, int i) {
            int first = twins.firstOf(i);
            int second = twins.secondOf(i);
            return first >= 0 && first < teams && second >= 0 && second < teams;
        }

        /** Two that meet are never both at home, so that their own game needs no care. */
        private int clashesOf(int slot, int other) {
            return Integer.bitCount(homes[slot] & homes[other]);
        }

        private void giveNames(Couples wishes) {
            for (int i = 0; i < teams; i++) {
                teamOfSlot[i] = NONE;
                slotOfTeam[i] = NONE;
            }
            // Game i of round 0 is always between slots i and n - 1 - i.
            for (int i = 0; i < wishes.size() && i < teams / 2; i++) {
                seat(wishes.firstOf(i), i);
                seat(wishes.secondOf(i), teams - 1 - i);
            }
            int slot = 0;
            for (int team = 0; team < teams; team++) {
                if (slotOfTeam[team] == NONE) {
                    while (slot < teams && teamOfSlot[slot] != NONE) {
                        slot++;
                    }
                    seat(team, slot);
                }
            }
        }

        private void seat(int team, int slot) {
            if (team >= 0 && team < teams && slot >= 0 && slot < teams) {
                teamOfSlot[slot] = team;
                slotOfTeam[team] = slot;
            }
        }

        private int homeRounds(int slot) {
            int bits = 0;
            for (int round = 0; round < teams - 1; round++) {
                if (isHome(slot, round)) {
                    bits |= 1 << round;
                }
            }
            return bits;
        }

        private int lesserSlot(int round, int i) {
            int seen = 0;
            for (int slot = 0; slot < teams; slot++) {
                if (slot < rivalSlot(slot, round)) {
                    if (seen == i) {
                        return slot;
                    }
                    seen++;
                }
            }
            return NONE;
        }

        private int rivalSlot(int slot, int round) {
            if (slot == teams - 1) {
                return round;
            }
            if (slot == round) {
                return teams - 1;
            }
            return wrapped(round + round - slot);
        }

        private boolean isHome(int slot, int round) {
            boolean roundIsEven = (round & 1) == 0;
            if (slot == teams - 1) {
                return !roundIsEven;
            }
            if (slot == round) {
                return roundIsEven;
            }
            // Slot r - k is n - 1 - k ahead of r, which is odd just when k is even.
            return (wrapped(slot - round) & 1) == 1;
        }

        /** The rest by n - 1 of what is off by n - 1 at most. */
        private int wrapped(int number) {
            if (number < 0) {
                return number + teams - 1;
            }
            return number >= teams - 1 ? number - (teams - 1) : number;
        }
    }

    /** Players, their rounds, their results and their standings. */
    private static final class PairedRounds {
        /** Who is in had another opponent in each round, so that there are never more rounds. */
        private static final int MOST_ROUNDS = 16;
        private static final int WHITE = 1;
        private static final int BLACK = 0;
        private static final int WON = 2;
        /** Each measure is below it, so that measures may be joined to one number. */
        private static final int MEASURE_BITS = 10;

        /** Rows of 16 players for each round; NONE for what there is not (yet). */
        private final int[] rivals = new int[MOST_ROUNDS * MOST];
        private final int[] colours = new int[MOST_ROUNDS * MOST];
        private final int[] made = new int[MOST_ROUNDS * MOST];
        /** The last one of these stands for the free round: no points, no need. */
        private final int[] points = new int[MOST + 1];
        private final int[] needs = new int[MOST + 1];
        /** For each player a bit for each opponent it had, the free round too. */
        private final int[] met = new int[MOST];
        private final long[] ranks = new long[MOST];
        private final Matching matching = new Matching();
        private int count;
        private int rounds;
        /** A bit for each player that went out. */
        private int gone;
        private long latestCost;

        void begin(int p) {
            count = p;
            rounds = 0;
            gone = 0;
            latestCost = 0;
            for (int player = 0; player < MOST; player++) {
                met[player] = 0;
            }
            reckon();
        }

        int playersIn() {
            return count - Integer.bitCount(gone);
        }

        boolean leave(int player) {
            if (!isPlayer(player) || isGone(player)) {
                return false;
            }
            gone |= 1 << player;
            return true;
        }

        /** Whether all games of the latest round are booked. */
        boolean isBooked() {
            for (int player = 0; player < count && rounds > 0; player++) {
                int cell = cellOf(player, rounds - 1);
                if (isPlayer(rivals[cell]) && made[cell] == NONE) {
                    return false;
                }
            }
            return true;
        }

        boolean findPairing() {
            if (rounds >= MOST_ROUNDS) {
                return false;
            }
            matching.clear();
            for (int player = 0; player < count; player++) {
                if (!isGone(player)) {
                    matching.enter(player);
                }
            }
            if ((playersIn() & 1) != 0) {
                matching.enter(FREE);
            }
            for (int i = 0; i < matching.size(); i++) {
                for (int k = i + 1; k < matching.size(); k++) {
                    matching.setPrice(i, k, priceOf(matching.playerOf(i), matching.playerOf(k)));
                }
            }
            return matching.solve();
        }

        /** Makes a round of the pairing that was found. */
        int addRound() {
            if (rounds >= MOST_ROUNDS) {
                return 0;
            }
            for (int player = 0; player < MOST; player++) {
                int cell = cellOf(player, rounds);
                rivals[cell] = NONE;
                colours[cell] = NONE;
                made[cell] = NONE;
            }
            for (int i = 0; i < matching.size(); i++) {
                int player = matching.playerOf(i);
                int rival = matching.mateOf(i);
                if (isPlayer(player) && rival != NONE) {
                    addToRound(player, rival);
                }
            }
            rounds++;
            latestCost = matching.leastCost();
            reckon();
            return playersIn() / 2;
        }

        int costPart(int what) {
            return what < 0 || what > 2 ? 0 : Price.part(latestCost, what);
        }

        int rivalOf(int player, int round) {
            return isPlayer(player) && isRound(round) ? rivals[cellOf(player, round)] : NONE;
        }

        int colourOf(int player, int round) {
            return isPlayer(player) && isRound(round) ? colours[cellOf(player, round)] : NONE;
        }

        boolean enterResult(int round, int i, int halves) {
            if (!isRound(round)) {
                return false;
            }
            int player = lesserPlayer(round, i);
            int rival = rivalOf(player, round);
            if (!isPlayer(player) || !isPlayer(rival)) {
                return false;
            }
            boolean isWhite = colourOf(player, round) == WHITE;
            made[cellOf(player, round)] = isWhite ? halves : 2 - halves;
            made[cellOf(rival, round)] = isWhite ? 2 - halves : halves;
            reckon();
            return true;
        }

        int playerInPlace(int place) {
            if (place < 0 || place >= count) {
                return NONE;
            }
            for (int player = 0; player < count; player++) {
                ranks[player] = rankOf(player);
            }
            for (int player = 0; player < count; player++) {
                if (playersBefore(player) == place) {
                    return player;
                }
            }
            return NONE;
        }

        int scoreOf(int player, int what) {
            if (!isPlayer(player)) {
                return 0;
            }
            switch (what) {
                case 0:
                    return points[player];
                case 1:
                    return directOf(player);
                case 2:
                    return sumOf(player);
                case 3:
                    return cutOf(player);
                case 4:
                    return winsOf(player);
                case 5:
                    return needs[player];
                default:
                    return 0;
            }
        }

        private boolean isPlayer(int player) {
            return player >= 0 && player < count;
        }

        private boolean isRound(int round) {
            return round >= 0 && round < rounds;
        }

        private boolean isGone(int player) {
            return (gone >> player & 1) != 0;
        }

        private int cellOf(int player, int round) {
            return round * MOST + player;
        }

        /** The price of a pair, the lesser one told first. */
        private long priceOf(int player, int rival) {
            if (!isPlayer(player) || rival < 0 || rival > FREE || (met[player] >> rival & 1) != 0) {
                return Price.IMPOSSIBLE;
            }
            int apart = points[player] - points[rival];
            int need = needs[player];
            int other = needs[rival];
            boolean alike = (need > 0 && other > 0) || (need < 0 && other < 0);
            int strain = alike ? Math.min(Math.abs(need), Math.abs(other)) : 0;
            return Price.of(apart * apart, strain, FREE - Math.abs(player - rival));
        }

        private void addToRound(int player, int rival) {
            int cell = cellOf(player, rounds);
            rivals[cell] = rival;
            met[player] |= 1 << rival;
            if (rival == FREE) {
                made[cell] = WON;
            } else {
                colours[cell] = isWhite(player, rival) ? WHITE : BLACK;
            }
        }

        private boolean isWhite(int player, int rival) {
            if (needs[player] != needs[rival]) {
                return needs[player] < needs[rival];
            }
            return (player < rival) == (needs[player] <= 0);
        }

        /** Reckons points and needs anew: a result may have been corrected. */
        private void reckon() {
            for (int player = 0; player < count; player++) {
                int sum = 0;
                int need = 0;
                int latest = 0;
                for (int round = 0; round < rounds; round++) {
                    int cell = cellOf(player, round);
                    sum += Math.max(made[cell], 0);
                    if (colours[cell] != NONE) {
                        latest = colours[cell] == WHITE ? 1 : -1;
                        need += 2 * latest;
                    }
                }
                points[player] = sum;
                needs[player] = need + latest;
            }
        }

        private int lesserPlayer(int round, int i) {
            int seen = 0;
            for (int player = 0; player < count; player++) {
                int rival = rivalOf(player, round);
                if (isPlayer(rival) && player < rival) {
                    if (seen == i) {
                        return player;
                    }
                    seen++;
                }
            }
            return NONE;
        }

        /** The opponent in a game that is booked; NONE without one. */
        private int bookedRival(int player, int round) {
            int cell = cellOf(player, round);
            return made[cell] != NONE && isPlayer(rivals[cell]) ? rivals[cell] : NONE;
        }

        private int directOf(int player) {
            int sum = 0;
            for (int round = 0; round < rounds; round++) {
                int rival = bookedRival(player, round);
                if (rival != NONE && points[rival] == points[player]) {
                    sum += made[cellOf(player, round)];
                }
            }
            return sum;
        }

        private int sumOf(int player) {
            int sum = 0;
            for (int round = 0; round < rounds; round++) {
                int rival = bookedRival(player, round);
                if (rival != NONE) {
                    sum += points[rival];
                }
            }
            return sum;
        }

        private int cutOf(int player) {
            int games = 0;
            int greatest = 0;
            int least = 0;
            for (int round = 0; round < rounds; round++) {
                int rival = bookedRival(player, round);
                if (rival != NONE) {
                    greatest = games == 0 ? points[rival] : Math.max(greatest, points[rival]);
                    least = games == 0 ? points[rival] : Math.min(least, points[rival]);
                    games++;
                }
            }
            return games < 3 ? 0 : sumOf(player) - greatest - least;
        }

        private int winsOf(int player) {
            int wins = 0;
            for (int round = 0; round < rounds; round++) {
                if (bookedRival(player, round) != NONE && made[cellOf(player, round)] == WON) {
                    wins++;
                }
            }
            return wins;
        }

        /** All that the standings go by, joined to one number: the greater stands before. */
        private long rankOf(int player) {
            long rank = points[player];
            rank = rank << MEASURE_BITS | directOf(player);
            rank = rank << MEASURE_BITS | sumOf(player);
            rank = rank << MEASURE_BITS | cutOf(player);
            rank = rank << MEASURE_BITS | winsOf(player);
            return rank << MEASURE_BITS | (MOST - player);
        }

        private int playersBefore(int player) {
            int before = 0;
            for (int other = 0; other < count; other++) {
                if (ranks[other] > ranks[player]) {
                    before++;
                }
            }
            return before;
        }
    }

    /** The three numbers of a cost, joined to one so that sums and comparisons are plain ones. */
    private static final class Price {
        static final long IMPOSSIBLE = -1;
        /** Sums of the second and the third number stay below 1024. */
        private static final int BITS = 10;
        private static final long MASK = (1 << BITS) - 1;

        private Price() {
        }

        static long of(int first, int second, int third) {
            return ((long) first << BITS | second) << BITS | third;
        }

        static int part(long price, int what) {
            if (what == 0) {
                return (int) (price >> 2 * BITS);
            }
            return (int) (what == 1 ? price >> BITS & MASK : price & MASK);
        }
    }

    /**
     * The cheapest way to pair up all that entered. The one that entered first is paired first: so
     * few sets of ones left over come up (some 1600 of 16), and the least cost of each is kept.
     */
    private static final class Matching {
        private static final long UNKNOWN = -2;
        /** Sets with one of the first three come up twice at most: they are not kept. */
        private static final int NOT_KEPT = 7;
        /** All sets are even, so that the fourth follows from the rest. */
        private static final int KEY_SHIFT = 4;

        private final int[] entered = new int[MOST];
        private final int[] mates = new int[MOST];
        private final long[] prices = new long[MOST * MOST];
        private final long[] kept = new long[1 << (MOST - KEY_SHIFT)];
        private int size;
        private long total;

        void clear() {
            size = 0;
        }

        void enter(int player) {
            if (size < MOST) {
                entered[size] = player;
                size++;
            }
        }

        int size() {
            return size;
        }

        int playerOf(int i) {
            return i >= 0 && i < size ? entered[i] : NONE;
        }

        int mateOf(int i) {
            return i >= 0 && i < size ? playerOf(mates[i]) : NONE;
        }

        long leastCost() {
            return total;
        }

        void setPrice(int i, int k, long price) {
            if (i >= 0 && i < k && k < size) {
                prices[i * MOST + k] = price;
            }
        }

        /** Whether there is a way; then mateOf and leastCost tell of the cheapest one. */
        boolean solve() {
            int all = (1 << size) - 1;
            for (int key = 0; key <= all >> KEY_SHIFT; key++) {
                kept[key] = UNKNOWN;
            }
            long least = leastOf(all, size / 2);
            if (least < 0) {
                return false;
            }
            total = least;
            chooseMates(all, least);
            return true;
        }

        /** Of ways that cost the same the lesser mate of the first one counts, then so on. */
        private void chooseMates(int all, long least) {
            int set = all;
            long left = least;
            for (int pairs = size / 2; pairs > 0; pairs--) {
                int first = Integer.numberOfTrailingZeros(set);
                int second = first + 1;
                while (second < size && costWith(set, first, second, pairs) != left) {
                    second++;
                }
                if (second >= size) {
                    return;
                }
                mates[first] = second;
                mates[second] = first;
                left -= prices[first * MOST + second];
                set &= ~(1 << first | 1 << second);
            }
        }

        /** The least cost of so many pairs, which are all of the set. */
        private long leastOf(int set, int pairs) {
            if (pairs <= 0) {
                return 0;
            }
            boolean keeps = (set & NOT_KEPT) == 0;
            int key = set >> KEY_SHIFT;
            if (keeps && kept[key] != UNKNOWN) {
                return kept[key];
            }
            int first = Integer.numberOfTrailingZeros(set);
            long least = Price.IMPOSSIBLE;
            for (int second = first + 1; second < size; second++) {
                long cost = costWith(set, first, second, pairs);
                if (cost >= 0 && (least < 0 || cost < least)) {
                    least = cost;
                }
            }
            if (keeps) {
                kept[key] = least;
            }
            return least;
        }

        /** The least cost when these two are a pair. */
        private long costWith(int set, int first, int second, int pairs) {
            long price = prices[first * MOST + second];
            if ((set >> second & 1) == 0 || price < 0) {
                return Price.IMPOSSIBLE;
            }
            long rest = leastOf(set & ~(1 << first | 1 << second), pairs - 1);
            return rest < 0 ? Price.IMPOSSIBLE : price + rest;
        }
    }

    /** A tree in which the loser goes out. */
    private static final class Knockout {
        private final int[] places = new int[MOST_IN_TREE];
        /** The winners of round 0, then those of round 1, and so on. */
        private final int[] winners = new int[MOST_IN_TREE];
        private int count;
        private int rounds;

        int grow(int n) {
            count = n;
            rounds = 0;
            places[0] = 0;
            for (int size = 1; size < n; size *= 2) {
                spreadPlaces(size);
                rounds++;
            }
            for (int i = 0; i < MOST_IN_TREE; i++) {
                winners[i] = NONE;
            }
            for (int i = 0; i < gamesOf(0); i++) {
                if (playerAt(0, i, 1) == NONE) {
                    winners[i] = playerAt(0, i, 0);
                }
            }
            return rounds;
        }

        int playerAt(int round, int i, int side) {
            if (!isGame(round, i) || side < 0 || side > 2) {
                return NONE;
            }
            if (side == 2) {
                return winners[cellOf(round, i)];
            }
            if (round > 0) {
                return winners[cellOf(round - 1, 2 * i + side)];
            }
            int player = places[2 * i + side];
            return player < count ? player : NONE;
        }

        boolean decide(int round, int i, boolean second) {
            int first = playerAt(round, i, 0);
            int other = playerAt(round, i, 1);
            if (first == NONE || other == NONE) {
                return false;
            }
            winners[cellOf(round, i)] = second ? other : first;
            int loser = second ? first : other;
            int game = i;
            for (int later = round + 1; later < rounds; later++) {
                game /= 2;
                if (winners[cellOf(later, game)] == loser) {
                    winners[cellOf(later, game)] = NONE;
                }
            }
            return true;
        }

        /** Twice as many places; from behind, so that none is overwritten before it is read. */
        private void spreadPlaces(int size) {
            for (int i = size - 1; i >= 0; i--) {
                int player = places[i];
                places[2 * i] = player;
                places[2 * i + 1] = 2 * size - 1 - player;
            }
        }

        private boolean isGame(int round, int i) {
            return round >= 0 && round < rounds && i >= 0 && i < gamesOf(round);
        }

        private int gamesOf(int round) {
            return 1 << (rounds - 1 - round);
        }

        private int cellOf(int round, int i) {
            return (1 << rounds) - (1 << (rounds - round)) + i;
        }
    }
}
