/** A race-course totalisator for the races of one day. */
public final class ToteHouse {
    public static final int NONE = -1;

    private static final int RACES = 12;
    private static final int LEAST_RUNNERS = 2;
    private static final int MOST_RUNNERS = 24;
    private static final int MOST_TICKETS = 600;
    private static final int MOST_UNITS = 1000;
    private static final int MOST_DEDUCTION = 999;
    private static final int MOST_UNIT = 1000;
    private static final int TEN_CENTS = 10;
    private static final int RUNNER_LOOKED_AT = 100;
    private static final int DOUBLE_IN_BOOKS = 13;

    /** The kinds of pools. */
    private static final int WIN = 0;
    private static final int PLACE = 1;
    private static final int PAIR = 2;
    private static final int ORDER = 3;
    private static final int DOUBLE = 4;

    /** What a race is. */
    private static final int OPEN = 0;
    private static final int OFF = 1;
    private static final int OFFICIAL = 2;

    /** What a ticket is. */
    private static final int SOLD = 0;
    private static final int CANCELLED = 1;
    private static final int REFUNDED = 2;
    private static final int PAID = 3;

    /** What a pool is. */
    private static final int UNSETTLED = 0;
    private static final int SETTLED = 1;
    private static final int VOID = 2;

    /** What stands in place of a position. */
    private static final int UNPLACED = 0;
    private static final int SCRATCHED = -1;

    /** By their numbers; 0 stays empty, and so does each race that was not told. */
    private final Race[] races = new Race[RACES + 1];
    private final Ticket[] tickets = new Ticket[MOST_TICKETS];
    private int ticketsSold;
    private Pool doublePool;
    private long dayEnd;

    public ToteHouse() {
    }

    // ---- the card

    public boolean race(int r, int runners) {
        if (ticketsSold > 0 || r < 1 || r >= races.length || races[r] != null
                || runners < LEAST_RUNNERS || runners > MOST_RUNNERS) {
            return false;
        }
        races[r] = new Race(r, runners);
        return true;
    }

    public boolean pool(int r, int kind, int deduction, int unit) {
        Race race = raceNumbered(r);
        if (ticketsSold > 0 || race == null || race.state != OPEN || !areTerms(deduction, unit)
                || kind < 0 || kind >= race.pools.length || race.pools[kind] != null) {
            return false;
        }
        race.pools[kind] = new Pool(kind, race, race, deduction, unit);
        return true;
    }

    public boolean pair(int first, int second, int deduction, int unit) {
        Race one = raceNumbered(first);
        Race other = raceNumbered(second);
        if (ticketsSold > 0 || one == null || other == null || one == other || one.state != OPEN
                || other.state != OPEN || !areTerms(deduction, unit) || doublePool != null) {
            return false;
        }
        doublePool = new Pool(DOUBLE, one, other, deduction, unit);
        return true;
    }

    public boolean substitute(int r, int n) {
        Race race = raceNumbered(r);
        if (ticketsSold > 0 || race == null || doublePool == null || !doublePool.isOf(race)
                || race.state != OPEN || !race.isRunning(n)) {
            return false;
        }
        race.substituteRunner = n;
        return true;
    }

    // ---- tickets

    public int sell(int r, int kind, int a, int b, int c, int units) {
        Pool pool = poolOf(r, kind);
        if (pool == null) {
            return -1;
        }
        if (units < 1 || units > MOST_UNITS) {
            return -2;
        }
        if (!pool.isOpen()) {
            return -3;
        }
        if (!pool.hasRunners(a, b, c)) {
            return -4;
        }
        if (!pool.haveStart(a, b, c)) {
            return -5;
        }
        if (pool.namesOneTwice(a, b, c)) {
            return -6;
        }
        if (ticketsSold < 0 || ticketsSold >= tickets.length) {
            return -7;
        }
        int number = ticketsSold;
        tickets[number] = pool.issueTicket(a, b, c, units);
        ticketsSold = number + 1;
        return number;
    }

    public boolean cancel(int t) {
        Ticket x = ticketNumbered(t);
        if (x == null || x.state != SOLD || !x.pool.isOpen()) {
            return false;
        }
        x.state = CANCELLED;
        return true;
    }

    public int ticket(int t, int what) {
        Ticket x = ticketNumbered(t);
        if (x == null) {
            return NONE;
        }
        switch (what) {
            case 0: return x.pool.kind == DOUBLE ? 0 : x.pool.first.number;
            case 1: return x.pool.kind;
            case 2: return x.a;
            case 3: return x.b;
            case 4: return x.c;
            case 5: return x.units;
            case 6: return x.state;
            default: return NONE;
        }
    }

    public int units(int r, int kind, int a, int b, int c) {
        Pool pool = poolOf(r, kind);
        if (pool == null || !pool.canBeNamed(a, b, c)) {
            return NONE;
        }
        return (int) pool.unitsOn(a, b, c);
    }

    public long count(int what) {
        switch (what) {
            case 0: return ticketsSold;
            case 1: return ticketsThatAre(SOLD);
            case 2: return ticketsThatAre(CANCELLED);
            case 3: return ticketsThatAre(REFUNDED);
            case 4: return ticketsThatAre(PAID);
            case 5: return centsThatWentBack();
            default: return NONE;
        }
    }

    // ---- races

    public int scratch(int r, int n) {
        Race race = raceNumbered(r);
        if (race == null || race.state != OPEN || !race.isRunning(n)) {
            return NONE;
        }
        race.withdraw(n);
        int refunds = 0;
        for (Pool pool : race.pools) {
            if (pool != null) {
                refunds += pool.refundNaming(n);
            }
        }
        if (doublePool != null) {
            refunds += doublePool.moveLegs(race, n);
        }
        return refunds;
    }

    public boolean off(int r) {
        Race race = raceNumbered(r);
        if (race == null || race.state != OPEN) {
            return false;
        }
        race.state = OFF;
        return true;
    }

    public boolean place(int r, int position, int n) {
        Race race = raceNumbered(r);
        if (race == null || race.state != OFF || !race.isRunning(n)
                || position < UNPLACED || position > MOST_RUNNERS) {
            return false;
        }
        race.putAt(n, position);
        return true;
    }

    public int official(int r) {
        Race race = raceNumbered(r);
        if (race == null || race.state != OFF || !race.hasResult()) {
            return NONE;
        }
        race.state = OFFICIAL;
        int settlements = 0;
        for (Pool pool : race.pools) {
            settlements += settleIfDecided(pool);
        }
        return settlements + settleIfDecided(doublePool);
    }

    public int look(int r, int what) {
        Race race = raceNumbered(r);
        if (race == null) {
            return NONE - 1;
        }
        switch (what) {
            case 0: return race.state;
            case 1: return race.runners;
            case 2: return race.running;
            case 3: return race.placedRunners();
            case 4: return race.substituteRunner;
            default: break;
        }
        if (what > RUNNER_LOOKED_AT && race.hasRunner(what - RUNNER_LOOKED_AT)) {
            return race.positionOf(what - RUNNER_LOOKED_AT);
        }
        return NONE - 1;
    }

    // ---- money

    public int odds(int r, int kind, int a, int b, int c) {
        Pool pool = poolOf(r, kind);
        if (pool == null || pool.state != UNSETTLED || !pool.canFinish(a, b, c)) {
            return NONE;
        }
        return (int) pool.dividendIfFinished(a, b, c);
    }

    public int dividend(int r, int kind, int a, int b, int c) {
        Pool pool = poolOf(r, kind);
        if (pool == null || pool.state == UNSETTLED || !pool.canBeNamed(a, b, c)) {
            return NONE;
        }
        return (int) pool.dividendOf(a, b, c);
    }

    public long pay(int t) {
        Ticket x = ticketNumbered(t);
        if (x == null || x.state == CANCELLED) {
            return -3;
        }
        if (x.state == REFUNDED) {
            return 0;
        }
        if (x.state == PAID) {
            return -1;
        }
        Pool pool = x.pool;
        if (pool.state == UNSETTLED) {
            return -2;
        }
        if (!pool.isWon(x.a, x.b, x.c)) {
            return 0;
        }
        long amount = x.units * pool.dividendOf(x.a, x.b, x.c);
        x.state = PAID;
        pool.paidOut += amount;
        return amount;
    }

    public long sum(int r, int kind, int what) {
        Pool pool = poolOf(r, kind);
        if (pool == null) {
            return NONE;
        }
        switch (what) {
            case 0: return pool.stakedCents();
            case 1: return pool.centsThatAre(REFUNDED);
            case 2: return pool.deducted;
            case 3: return pool.due;
            case 4: return pool.breakage;
            case 5: return pool.houseCost;
            case 6: return pool.carriedOut;
            case 7: return pool.carriedIn;
            case 8: return pool.paidOut;
            case 9: return pool.liveUnits();
            case 10: return pool.winners;
            case 11: return pool.state;
            default: return NONE;
        }
    }

    public long unclaimed() {
        long cents = 0;
        for (int r = 1; r <= RACES; r++) {
            for (int kind = WIN; kind <= ORDER; kind++) {
                cents += unclaimedOf(poolOf(r, kind));
            }
        }
        return cents + unclaimedOf(doublePool);
    }

    public long carried() {
        return dayEnd;
    }

    public int close() {
        for (Race race : races) {
            if (race != null && race.state != OFFICIAL) {
                return NONE;
            }
        }
        for (int r = 1; r <= RACES; r++) {
            for (int kind = WIN; kind <= ORDER; kind++) {
                if (!booksAddUp(poolOf(r, kind))) {
                    return 100 * r + kind + 1;
                }
            }
        }
        return booksAddUp(doublePool) ? 0 : 100 * DOUBLE_IN_BOOKS + DOUBLE + 1;
    }

    // ---- what the calls share

    private Race raceNumbered(int r) {
        return r < 1 || r >= races.length ? null : races[r];
    }

    private Pool poolOf(int r, int kind) {
        if (kind == DOUBLE) {
            return doublePool;
        }
        Race race = raceNumbered(r);
        return race == null || kind < 0 || kind >= race.pools.length ? null : race.pools[kind];
    }

    private Ticket ticketNumbered(int t) {
        return t < 0 || t >= tickets.length ? null : tickets[t];
    }

    private static boolean areTerms(int deduction, int unit) {
        return deduction >= 0 && deduction <= MOST_DEDUCTION
                && unit >= TEN_CENTS && unit <= MOST_UNIT && unit % TEN_CENTS == 0;
    }

    private long ticketsThatAre(int state) {
        long found = 0;
        for (int t = 0; t < ticketsSold; t++) {
            Ticket x = ticketNumbered(t);
            if (x != null && x.state == state) {
                found++;
            }
        }
        return found;
    }

    private long centsThatWentBack() {
        long cents = 0;
        for (int t = 0; t < ticketsSold; t++) {
            Ticket x = ticketNumbered(t);
            if (x != null && (x.state == CANCELLED || x.state == REFUNDED)) {
                cents += x.cost();
            }
        }
        return cents;
    }

    /** How many pools this settled: 1 or 0. */
    private int settleIfDecided(Pool pool) {
        if (pool == null || !pool.isDecided()) {
            return 0;
        }
        pool.settle();
        if (pool.carriedOut > 0) {
            carryFrom(pool.first.number, pool.carriedOut);
        }
        return 1;
    }

    private void carryFrom(int r, long cents) {
        for (int later = r + 1; later <= RACES; later++) {
            Race race = raceNumbered(later);
            Pool order = poolOf(later, ORDER);
            if (race != null && order != null && race.state != OFFICIAL) {
                order.carriedIn += cents;
                return;
            }
        }
        dayEnd += cents;
    }

    private static long unclaimedOf(Pool pool) {
        return pool == null ? 0 : pool.due - pool.paidOut;
    }

    /** A pool that is not there has no books to fail. */
    private static boolean booksAddUp(Pool pool) {
        return pool == null || pool.moneyIn() == pool.moneyOut();
    }

    /** A race that was told, its runners and its pools. */
    private static final class Race {
        /** A result needs no more, and fewer where fewer run. */
        private static final int ENOUGH_PLACED = 3;

        private final int number;
        private final int runners;
        /** By the runners' numbers: a position, UNPLACED or SCRATCHED. */
        private final int[] positions = new int[MOST_RUNNERS + 1];
        /** By their kinds, WIN to ORDER; null where there is none. */
        private final Pool[] pools = new Pool[DOUBLE];
        private int state;
        private int running;
        private int substituteRunner;

        private Race(int number, int runners) {
            this.number = number;
            this.runners = runners;
            this.running = runners;
        }

        private boolean hasRunner(int n) {
            return n >= 1 && n <= runners;
        }

        private int positionOf(int n) {
            return n < 0 || n >= positions.length ? UNPLACED : positions[n];
        }

        private boolean isRunning(int n) {
            return hasRunner(n) && positionOf(n) != SCRATCHED;
        }

        private void putAt(int n, int position) {
            if (n >= 0 && n < positions.length) {
                positions[n] = position;
            }
        }

        private void withdraw(int n) {
            putAt(n, SCRATCHED);
            running--;
        }

        private boolean isWithin(int n, int lastPosition) {
            int position = positionOf(n);
            return position > UNPLACED && position <= lastPosition;
        }

        private int runnersWithin(int lastPosition) {
            int found = 0;
            for (int n = 1; n <= runners; n++) {
                if (isWithin(n, lastPosition)) {
                    found++;
                }
            }
            return found;
        }

        private int placedRunners() {
            return runnersWithin(MOST_RUNNERS);
        }

        private boolean hasResult() {
            if (placedRunners() < Math.min(ENOUGH_PLACED, running)) {
                return false;
            }
            for (int n = 1; n <= runners; n++) {
                int position = positionOf(n);
                if (position > UNPLACED && position != runnersWithin(position - 1) + 1) {
                    return false;
                }
            }
            return true;
        }

        /** The last position that wins in the PLACE pool; 0 where too few run for one. */
        private int lastWinningPlace() {
            return running >= 8 ? 3 : running >= 5 ? 2 : 0;
        }

        /** Whether a, b, c can be first, second and third, as far as so many run. */
        private boolean canFinish(int a, int b, int c) {
            if (!isRunning(a)) {
                return false;
            }
            if (running > 1 && (!isRunning(b) || b == a)) {
                return false;
            }
            return running < 3 || isRunning(c) && c != a && c != b;
        }
    }

    /** A pool, its tickets and its books; one of a single race has that race as both of its own. */
    private static final class Pool {
        private final int kind;
        private final Race first;
        private final Race second;
        private final int deduction;
        private final int unit;
        private Ticket newest;
        private int state;
        private int winners;
        private long winningUnits;
        private long net;
        private long deducted;
        private long due;
        private long breakage;
        private long houseCost;
        private long carriedIn;
        private long carriedOut;
        private long paidOut;

        private Pool(int kind, Race first, Race second, int deduction, int unit) {
            this.kind = kind;
            this.first = first;
            this.second = second;
            this.deduction = deduction;
            this.unit = unit;
        }

        // ---- what is named

        private boolean isOf(Race race) {
            return first == race || second == race;
        }

        private boolean isOpen() {
            return first.state == OPEN && second.state == OPEN;
        }

        private boolean isDecided() {
            return state == UNSETTLED && first.state == OFFICIAL && second.state == OFFICIAL;
        }

        private boolean namesSecond() {
            return kind >= PAIR;
        }

        private boolean namesThird() {
            return kind == ORDER;
        }

        private boolean hasRunners(int a, int b, int c) {
            return first.hasRunner(a) && (!namesSecond() || second.hasRunner(b))
                    && (!namesThird() || first.hasRunner(c));
        }

        private boolean haveStart(int a, int b, int c) {
            return first.isRunning(a) && (!namesSecond() || second.isRunning(b))
                    && (!namesThird() || first.isRunning(c));
        }

        private boolean namesOneTwice(int a, int b, int c) {
            if (kind == DOUBLE || !namesSecond()) {
                return false;
            }
            return a == b || namesThird() && (a == c || b == c);
        }

        private boolean canBeNamed(int a, int b, int c) {
            return hasRunners(a, b, c) && !namesOneTwice(a, b, c);
        }

        private boolean canFinish(int a, int b, int c) {
            if (kind == DOUBLE) {
                return first.isRunning(a) && second.isRunning(b);
            }
            return first.canFinish(a, b, c);
        }

        private boolean isNamed(Ticket x, int a, int b, int c) {
            switch (kind) {
                case PAIR: return x.a == a && x.b == b || x.a == b && x.b == a;
                case ORDER: return x.a == a && x.b == b && x.c == c;
                case DOUBLE: return x.a == a && x.b == b;
                default: return x.a == a;
            }
        }

        /**
         * Whether the result lets it win, be there units on it or not. A tie leaves out the
         * positions behind it, so that whoever is within position 2 can come second in some
         * way, and whoever is within position 3 third.
         */
        private boolean isWon(int a, int b, int c) {
            switch (kind) {
                case WIN: return first.isWithin(a, 1);
                case PLACE: return first.isWithin(a, first.lastWinningPlace());
                case PAIR: return first.isWithin(a, 2) && first.isWithin(b, 2)
                        && (first.isWithin(a, 1) || first.isWithin(b, 1));
                case ORDER: return first.isWithin(a, 1) && first.isWithin(b, 2) && first.isWithin(c, 3);
                default: return first.isWithin(a, 1) && second.isWithin(b, 1);
            }
        }

        // ---- tickets

        private Ticket issueTicket(int a, int b, int c, int units) {
            newest = new Ticket(this, newest, a, namesSecond() ? b : 0, namesThird() ? c : 0, units);
            return newest;
        }

        private int refundNaming(int n) {
            int refunds = 0;
            for (Ticket x = newest; x != null; x = x.earlier) {
                if (x.state == SOLD && (x.a == n || x.b == n || x.c == n)) {
                    x.state = REFUNDED;
                    refunds++;
                }
            }
            return refunds;
        }

        /** Of the DOUBLE: each leg on the scratched runner moves; how many could not. */
        private int moveLegs(Race race, int n) {
            int refunds = 0;
            for (Ticket x = newest; x != null; x = x.earlier) {
                boolean inFirst = race == first && x.a == n;
                boolean inSecond = race == second && x.b == n;
                if (x.state != SOLD || !inFirst && !inSecond) {
                    continue;
                }
                if (!race.isRunning(race.substituteRunner)) {
                    x.state = REFUNDED;
                    refunds++;
                } else if (inFirst) {
                    x.a = race.substituteRunner;
                } else {
                    x.b = race.substituteRunner;
                }
            }
            return refunds;
        }

        private void refundAll() {
            for (Ticket x = newest; x != null; x = x.earlier) {
                if (x.state == SOLD) {
                    x.state = REFUNDED;
                }
            }
        }

        private long unitsOn(int a, int b, int c) {
            long found = 0;
            for (Ticket x = newest; x != null; x = x.earlier) {
                if (x.isLive() && isNamed(x, a, b, c)) {
                    found += x.units;
                }
            }
            return found;
        }

        private long liveUnits() {
            long found = 0;
            for (Ticket x = newest; x != null; x = x.earlier) {
                if (x.isLive()) {
                    found += x.units;
                }
            }
            return found;
        }

        private long centsThatAre(int ticketState) {
            long cents = 0;
            for (Ticket x = newest; x != null; x = x.earlier) {
                if (x.state == ticketState) {
                    cents += x.cost();
                }
            }
            return cents;
        }

        private long stakedCents() {
            return stakeAtRisk() + centsThatAre(REFUNDED);
        }

        /** S of the document. */
        private long stakeAtRisk() {
            return unit * liveUnits();
        }

        // ---- settling

        private long deductionNow() {
            return stakeAtRisk() * deduction / 1000;
        }

        private long netNow() {
            return stakeAtRisk() - deductionNow() + carriedIn;
        }

        private void settle() {
            findWinners();
            if (winners == 0 && kind != ORDER) {
                refundAll();
                state = VOID;
                return;
            }
            deducted = deductionNow();
            net = netNow();
            state = SETTLED;
            if (winners == 0) {
                carriedOut = net;
                return;
            }
            if (kind == PLACE) {
                houseCost = Math.max(0, unit * winningUnits - net);
            }
            due = dueToWinners();
            breakage = net + houseCost - due;
        }

        private void findWinners() {
            for (Ticket x = newest; x != null; x = x.earlier) {
                if (x.isLive() && isWon(x.a, x.b, x.c)) {
                    winningUnits += x.units;
                    if (isOldestOfItsNames(x)) {
                        winners++;
                    }
                }
            }
        }

        /** So that what many tickets name counts once. */
        private boolean isOldestOfItsNames(Ticket x) {
            for (Ticket y = x.earlier; y != null; y = y.earlier) {
                if (y.isLive() && isNamed(y, x.a, x.b, x.c)) {
                    return false;
                }
            }
            return true;
        }

        private long dueToWinners() {
            long cents = 0;
            for (Ticket x = newest; x != null; x = x.earlier) {
                if (x.isLive() && isWon(x.a, x.b, x.c)) {
                    cents += x.units * dividendOn(unitsOn(x.a, x.b, x.c));
                }
            }
            return cents;
        }

        private long dividendOf(int a, int b, int c) {
            return isWon(a, b, c) ? dividendOn(unitsOn(a, b, c)) : 0;
        }

        private long dividendOn(long u) {
            return dividendFrom(net, winners, winningUnits, u);
        }

        /** What u units get of the money, when k winners have so many units among them. */
        private long dividendFrom(long money, int k, long unitsOnAll, long u) {
            if (k < 1 || u < 1) {
                return 0;
            }
            if (kind != PLACE) {
                return wholeTens(money / k / u);
            }
            long unitsBack = unit * unitsOnAll;
            if (money < unitsBack) {
                return unit;
            }
            return wholeTens(unit + (money - unitsBack) / k / u);
        }

        private static long wholeTens(long cents) {
            return cents - cents % TEN_CENTS;
        }

        private long dividendIfFinished(int a, int b, int c) {
            long u = unitsOn(a, b, c);
            if (kind != PLACE) {
                return dividendFrom(netNow(), 1, u, u);
            }
            int lastPlace = first.lastWinningPlace();
            if (lastPlace < 2) {
                return 0;
            }
            long onSecond = unitsOn(b, 0, 0);
            long onThird = lastPlace < 3 ? 0 : unitsOn(c, 0, 0);
            int k = (u > 0 ? 1 : 0) + (onSecond > 0 ? 1 : 0) + (onThird > 0 ? 1 : 0);
            return dividendFrom(netNow(), k, u + onSecond + onThird, u);
        }

        // ---- books

        private long moneyIn() {
            return stakedCents() + carriedIn + houseCost;
        }

        private long moneyOut() {
            return centsThatAre(REFUNDED) + deducted + due + breakage + carriedOut;
        }
    }

    /** A ticket, and the one sold ahead of it in its pool. */
    private static final class Ticket {
        private final Pool pool;
        private final Ticket earlier;
        private final int units;
        private int a;
        private int b;
        private int c;
        private int state;

        private Ticket(Pool pool, Ticket earlier, int a, int b, int c, int units) {
            this.pool = pool;
            this.earlier = earlier;
            this.a = a;
            this.b = b;
            this.c = c;
            this.units = units;
        }

        private boolean isLive() {
            return state == SOLD || state == PAID;
        }

        private long cost() {
            return (long) units * pool.unit;
        }
    }
}
