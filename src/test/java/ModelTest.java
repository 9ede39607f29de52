import java.util.ArrayList;
import java.util.HashMap;
import java.util.HashSet;
import java.util.List;
import java.util.Map;
import java.util.Set;

/**
 * Days of calls against a second program, written from the document in another way: it
 * puts the tied ones in every order and keeps a table of dividends for each pool. The
 * calls come from a fixed row of numbers, so every run of this test is the same.
 */
public final class ModelTest {
    private static final int CALLS = 512;
    private static final int NONE = -1;
    private static final int[] ODD_NUMBERS = {-1, 0, 25, 99, Integer.MIN_VALUE, Integer.MAX_VALUE};

    /** A pool of the model. */
    private static final class Book {
        private int deduction;
        private int unit;
        private int state;
        private int k;
        private long deducted;
        private long due;
        private long breakage;
        private long house;
        private long in;
        private long out;
        private long paid;
        private Map<String, Long> dividends = new HashMap<>();
    }

    private static final class Bet {
        private int race;
        private int kind;
        private int[] names;
        private int units;
        private int state;
        private int cost;
    }

    /** The document, told once more. */
    private static final class Model {
        private final int[] runners = new int[13];
        private final int[] state = new int[13];
        private final int[] substitutes = new int[13];
        private final int[][] positions = new int[13][25];
        private final Map<Integer, Book> books = new HashMap<>();
        private final List<Bet> bets = new ArrayList<>();
        private int first;
        private int second;
        private long dayEnd;

        private boolean told(int r) {
            return r >= 1 && r <= 12 && runners[r] > 0;
        }

        private boolean told(int r, int n) {
            return told(r) && n >= 1 && n <= runners[r];
        }

        private boolean runs(int r, int n) {
            return told(r, n) && positions[r][n] >= 0;
        }

        private int running(int r) {
            int found = 0;
            for (int n = 1; n <= 24; n++) {
                found += runs(r, n) ? 1 : 0;
            }
            return found;
        }

        private static int key(int r, int kind) {
            return kind == 4 ? 4 : 10 * r + kind;
        }

        private Book book(int r, int kind) {
            boolean one = kind >= 0 && kind <= 3 && r >= 1 && r <= 12;
            return one || kind == 4 ? books.get(key(r, kind)) : null;
        }

        private static boolean terms(int deduction, int unit) {
            return deduction >= 0 && deduction < 1000 && unit > 0 && unit <= 1000 && unit % 10 == 0;
        }

        private boolean race(int r, int count) {
            if (!bets.isEmpty() || r < 1 || r > 12 || count < 2 || count > 24 || told(r)) {
                return false;
            }
            runners[r] = count;
            return true;
        }

        private boolean pool(int r, int kind, int deduction, int unit) {
            if (!bets.isEmpty() || !told(r) || state[r] != 0 || kind < 0 || kind > 3
                    || !terms(deduction, unit) || book(r, kind) != null) {
                return false;
            }
            addBook(r, kind, deduction, unit);
            return true;
        }

        private void addBook(int r, int kind, int deduction, int unit) {
            Book book = new Book();
            book.deduction = deduction;
            book.unit = unit;
            books.put(key(r, kind), book);
        }

        private boolean pair(int one, int other, int deduction, int unit) {
            if (!bets.isEmpty() || !told(one) || !told(other) || one == other || state[one] != 0
                    || state[other] != 0 || !terms(deduction, unit) || first > 0) {
                return false;
            }
            first = one;
            second = other;
            addBook(0, 4, deduction, unit);
            return true;
        }

        private boolean substitute(int r, int n) {
            boolean may = bets.isEmpty() && first > 0 && (r == first || r == second)
                    && state[r] == 0 && runs(r, n);
            if (may) {
                substitutes[r] = n;
            }
            return may;
        }

        /** The races of what a, b, c name; as many as are named. */
        private int[] racesOf(int r, int kind) {
            switch (kind) {
                case 2: return new int[] {r, r};
                case 3: return new int[] {r, r, r};
                case 4: return new int[] {first, second};
                default: return new int[] {r};
            }
        }

        /** 0, or -4, -5, -6 of sell(). */
        private int fault(int r, int kind, int[] abc, boolean scratchedToo) {
            int[] of = racesOf(r, kind);
            Set<Integer> different = new HashSet<>();
            int fault = 0;
            for (int i = 0; i < of.length; i++) {
                if (!told(of[i], abc[i])) {
                    return -4;
                }
                if (scratchedToo && !runs(of[i], abc[i])) {
                    fault = -5;
                }
                different.add(abc[i]);
            }
            return fault == 0 && kind != 4 && different.size() < of.length ? -6 : fault;
        }

        private boolean open(int r, int kind) {
            for (int race : racesOf(r, kind)) {
                if (state[race] != 0) {
                    return false;
                }
            }
            return true;
        }

        private int sell(int r, int kind, int a, int b, int c, int units) {
            Book book = book(r, kind);
            if (book == null) {
                return -1;
            }
            if (units < 1 || units > 1000) {
                return -2;
            }
            if (!open(r, kind)) {
                return -3;
            }
            int[] abc = {a, b, c};
            int fault = fault(r, kind, abc, true);
            if (fault != 0) {
                return fault;
            }
            Bet bet = new Bet();
            bet.race = kind == 4 ? 0 : r;
            bet.kind = kind;
            bet.names = new int[3];
            System.arraycopy(abc, 0, bet.names, 0, racesOf(r, kind).length);
            bet.units = units;
            bet.cost = units * book.unit;
            bets.add(bet);
            return bets.size() - 1;
        }

        private Bet bet(int t) {
            return t >= 0 && t < bets.size() ? bets.get(t) : null;
        }

        private boolean cancel(int t) {
            Bet bet = bet(t);
            boolean may = bet != null && bet.state == 0 && open(bet.race, bet.kind);
            if (may) {
                bet.state = 1;
            }
            return may;
        }

        private int scratch(int r, int n) {
            if (!runs(r, n) || state[r] != 0) {
                return NONE;
            }
            positions[r][n] = -1;
            int refunds = 0;
            for (Bet bet : bets) {
                int[] of = racesOf(bet.race, bet.kind);
                for (int i = 0; i < of.length; i++) {
                    if (bet.state != 0 || of[i] != r || bet.names[i] != n) {
                        continue;
                    }
                    if (bet.kind == 4 && runs(r, substitutes[r])) {
                        bet.names[i] = substitutes[r];
                    } else {
                        bet.state = 2;
                        refunds++;
                    }
                }
            }
            return refunds;
        }

        private boolean off(int r) {
            boolean may = told(r) && state[r] == 0;
            if (may) {
                state[r] = 1;
            }
            return may;
        }

        private boolean place(int r, int position, int n) {
            boolean may = told(r) && state[r] == 1 && runs(r, n) && position >= 0 && position <= 24;
            if (may) {
                positions[r][n] = position;
            }
            return may;
        }

        private boolean canBeOfficial(int r) {
            int placed = 0;
            for (int n = 1; n <= 24; n++) {
                int lesser = 0;
                for (int m = 1; m <= 24; m++) {
                    lesser += positions[r][m] > 0 && positions[r][m] < positions[r][n] ? 1 : 0;
                }
                if (positions[r][n] > 0 && positions[r][n] != 1 + lesser) {
                    return false;
                }
                placed += positions[r][n] > 0 ? 1 : 0;
            }
            return placed >= 3 || placed == running(r);
        }

        private int official(int r) {
            if (!told(r) || state[r] != 1 || !canBeOfficial(r)) {
                return NONE;
            }
            state[r] = 2;
            int settled = 0;
            for (int kind = 0; kind <= 4; kind++) {
                Book book = book(r, kind);
                boolean ready = book != null && book.state == 0
                        && (kind < 4 || state[first] == 2 && state[second] == 2);
                if (ready) {
                    settle(book, r, kind);
                    settled++;
                }
            }
            return settled;
        }

        /** The first so many in every order that the tied ones can be put in. */
        private static List<List<Integer>> orders(int[] at, int howMany) {
            List<List<Integer>> found = new ArrayList<>();
            extend(at, howMany, new ArrayList<>(), found);
            return found;
        }

        private static void extend(int[] at, int howMany, List<Integer> begun, List<List<Integer>> found) {
            if (begun.size() == howMany) {
                found.add(new ArrayList<>(begun));
                return;
            }
            int best = 99;
            for (int n = 1; n < at.length; n++) {
                best = at[n] > 0 && !begun.contains(n) ? Math.min(best, at[n]) : best;
            }
            for (int n = 1; n < at.length; n++) {
                if (at[n] == best && !begun.contains(n)) {
                    begun.add(n);
                    extend(at, howMany, begun, found);
                    begun.remove(begun.size() - 1);
                }
            }
        }

        private static String tag(int kind, int[] abc) {
            switch (kind) {
                case 2: return Math.min(abc[0], abc[1]) + "+" + Math.max(abc[0], abc[1]);
                case 3: return abc[0] + ">" + abc[1] + ">" + abc[2];
                case 4: return abc[0] + "," + abc[1];
                default: return "" + abc[0];
            }
        }

        private Set<String> winners(int r, int kind, int[] at, int[] atSecond) {
            Set<String> won = new HashSet<>();
            int n = running(r);
            int last = n >= 8 ? 3 : n >= 5 ? 2 : 0;
            for (int a = 1; a <= 24; a++) {
                if (kind == 0 && at[a] == 1 || kind == 1 && at[a] >= 1 && at[a] <= last) {
                    won.add("" + a);
                }
                for (int b = 1; b <= 24 && kind == 4; b++) {
                    if (at[a] == 1 && atSecond[b] == 1) {
                        won.add(a + "," + b);
                    }
                }
            }
            if (kind == 2 || kind == 3) {
                for (List<Integer> order : orders(at, kind)) {
                    won.add(tag(kind, new int[] {order.get(0), order.get(1), kind == 3 ? order.get(2) : 0}));
                }
            }
            return won;
        }

        private Map<String, Long> unitsByName(int r, int kind) {
            Map<String, Long> units = new HashMap<>();
            for (Bet bet : bets) {
                if (bet.kind == kind && (kind == 4 || bet.race == r) && bet.state % 3 == 0) {
                    units.merge(tag(kind, bet.names), (long) bet.units, Long::sum);
                }
            }
            return units;
        }

        private long cents(int r, int kind, int wanted) {
            long cents = 0;
            for (Bet bet : bets) {
                if (bet.kind == kind && (kind == 4 || bet.race == r) && bet.state == wanted) {
                    cents += bet.cost;
                }
            }
            return cents;
        }

        /** A settled copy of the pool's book with these winners. */
        private Book reckon(Book book, int r, int kind, Set<String> winners) {
            Book done = new Book();
            Map<String, Long> units = unitsByName(r, kind);
            units.keySet().retainAll(winners);
            done.unit = book.unit;
            done.deduction = book.deduction;
            done.in = book.in;
            done.k = units.size();
            if (done.k == 0 && kind != 3) {
                done.state = 2;
                return done;
            }
            done.state = 1;
            long s = cents(r, kind, 0) + cents(r, kind, 3);
            done.deducted = (long) Math.floor(s * (double) book.deduction / 1000.0 + 1e-9);
            long net = s - done.deducted + book.in;
            if (done.k == 0) {
                done.out = net;
                return done;
            }
            long back = 0;
            for (long u : units.values()) {
                back += kind == 1 ? u * book.unit : 0;
            }
            done.house = Math.max(0, back - net);
            long share = done.house > 0 ? 0 : (net - back) / done.k;
            long left = done.house > 0 ? 0 : net - back - share * done.k;
            for (Map.Entry<String, Long> one : units.entrySet()) {
                long u = one.getValue();
                long more = share / (10 * u) * 10;
                done.dividends.put(one.getKey(), more + (kind == 1 ? book.unit : 0));
                done.due += u * done.dividends.get(one.getKey());
                left += share - u * more;
            }
            done.breakage = left;
            return done;
        }

        private void settle(Book book, int r, int kind) {
            int race = kind == 4 ? first : r;
            Set<String> winners = winners(race, kind, positions[race], positions[second]);
            Book done = reckon(book, r, kind, winners);
            books.put(key(r, kind), done);
            for (Bet bet : bets) {
                if (done.state == 2 && bet.kind == kind && (kind == 4 || bet.race == r) && bet.state == 0) {
                    bet.state = 2;
                }
            }
            if (done.out > 0) {
                carry(r, done.out);
            }
        }

        private void carry(int r, long cents) {
            for (int later = r + 1; later <= 12; later++) {
                if (book(later, 3) != null && state[later] != 2) {
                    book(later, 3).in += cents;
                    return;
                }
            }
            dayEnd += cents;
        }

        private int odds(int r, int kind, int a, int b, int c) {
            Book book = book(r, kind);
            if (book == null || book.state != 0) {
                return NONE;
            }
            int[] abc = {a, b, c};
            int[] at = new int[25];
            int[] atSecond = new int[25];
            int race = kind == 4 ? first : r;
            int looked = kind == 4 ? 1 : Math.min(3, running(r));
            if (looked == 0) {
                return NONE;
            }
            for (int i = 0; i < looked; i++) {
                if (!runs(race, abc[i]) || at[abc[i]] > 0) {
                    return NONE;
                }
                at[abc[i]] = i + 1;
            }
            if (kind == 4) {
                if (!runs(second, b)) {
                    return NONE;
                }
                atSecond[b] = 1;
            }
            Book done = reckon(book, r, kind, winners(race, kind, at, atSecond));
            return (int) (long) done.dividends.getOrDefault(tag(kind, abc), 0L);
        }

        private int dividend(int r, int kind, int a, int b, int c) {
            Book book = book(r, kind);
            int[] abc = {a, b, c};
            if (book == null || book.state == 0 || fault(r, kind, abc, false) != 0) {
                return NONE;
            }
            return (int) (long) book.dividends.getOrDefault(tag(kind, abc), 0L);
        }

        private int units(int r, int kind, int a, int b, int c) {
            int[] abc = {a, b, c};
            if (book(r, kind) == null || fault(r, kind, abc, false) != 0) {
                return NONE;
            }
            return (int) (long) unitsByName(r, kind).getOrDefault(tag(kind, abc), 0L);
        }

        private long pay(int t) {
            Bet bet = bet(t);
            if (bet == null || bet.state == 1) {
                return -3;
            }
            if (bet.state > 1) {
                return 2 - bet.state;
            }
            Book book = book(bet.race, bet.kind);
            if (book.state == 0) {
                return -2;
            }
            Long dividend = book.dividends.get(tag(bet.kind, bet.names));
            if (dividend == null) {
                return 0;
            }
            bet.state = 3;
            book.paid += dividend * bet.units;
            return dividend * bet.units;
        }

        private long sum(int r, int kind, int what) {
            Book book = book(r, kind);
            if (book == null || what < 0 || what > 11) {
                return NONE;
            }
            long refunded = cents(r, kind, 2);
            long live = 0;
            for (long u : unitsByName(r, kind).values()) {
                live += u;
            }
            long[] sums = {live * book.unit + refunded, refunded, book.deducted, book.due, book.breakage,
                book.house, book.out, book.in, book.paid, live, book.k, book.state};
            return sums[what];
        }

        private long unclaimed() {
            long cents = 0;
            for (Book book : books.values()) {
                cents += book.due - book.paid;
            }
            return cents;
        }

        private int close() {
            for (int r = 1; r <= 12; r++) {
                if (told(r) && state[r] != 2) {
                    return NONE;
                }
            }
            return 0;
        }

        private int ticket(int t, int what) {
            Bet bet = bet(t);
            if (bet == null || what < 0 || what > 6) {
                return NONE;
            }
            int[] told = {bet.race, bet.kind, bet.names[0], bet.names[1], bet.names[2], bet.units, bet.state};
            return told[what];
        }

        private int look(int r, int what) {
            if (!told(r)) {
                return -2;
            }
            int placed = 0;
            for (int n = 1; n <= 24; n++) {
                placed += positions[r][n] > 0 ? 1 : 0;
            }
            int[] looks = {state[r], runners[r], running(r), placed, substitutes[r]};
            if (what >= 0 && what < 5) {
                return looks[what];
            }
            return what > 100 && what <= 100 + runners[r] ? positions[r][what - 100] : -2;
        }

        private long count(int what) {
            long[] counts = {bets.size(), 0, 0, 0, 0, 0};
            for (Bet bet : bets) {
                counts[bet.state + 1]++;
                counts[5] += bet.state == 1 || bet.state == 2 ? bet.cost : 0;
            }
            return what < 0 || what > 5 ? NONE : counts[what];
        }
    }

    private static long seed;

    /** A number from 0 to bound - 1. */
    private static int next(int bound) {
        seed = seed * 6364136223846793005L + 1442695040888963407L;
        return (int) ((seed >>> 33) % bound);
    }

    private static int odd(int usual) {
        return next(25) == 0 ? ODD_NUMBERS[next(ODD_NUMBERS.length)] : usual;
    }

    private static ToteHouse house;
    private static Model model;
    private static int races;
    private static int most;

    public static void main(String[] args) {
        int days = 400;
        for (int day = 1; day <= days && Check.wrong() < 20; day++) {
            seed = day * 7919L;
            house = new ToteHouse();
            model = new Model();
            races = 1 + next(5);
            most = day % 4 == 0 ? 4 + next(2) : 2 + next(day % 3 == 0 ? 23 : 9);
            for (int call = 0; call < CALLS && Check.wrong() < 20; call++) {
                compareCall("day " + day + " call " + call + ": ", call);
                if (day <= 10 || call % 97 == 0) {
                    compareAll("day " + day + " behind call " + call + ": ");
                }
            }
        }
        Check.end();
    }

    private static int anyRace() {
        return odd(1 + next(races + (next(9) == 0 ? 8 : 0)));
    }

    private static int anyRunner() {
        return odd(1 + next(next(3) == 0 ? Math.min(4, most) : most));
    }

    private static void compareCall(String at, int call) {
        if (call < 20 || next(60) == 0) {
            tellCard(at);
            return;
        }
        int turn = next(100);
        if (call > 470) {
            turn = 45 + next(55);
        }
        if (turn < 45) {
            int r = anyRace();
            int kind = odd(next(5));
            int units = odd(1 + next(next(4) == 0 ? 1000 : 9));
            int a = anyRunner();
            int b = anyRunner();
            int c = anyRunner();
            Check.due(at + "sell " + r + " " + kind + " " + a + " " + b + " " + c + " " + units,
                    house.sell(r, kind, a, b, c, units), model.sell(r, kind, a, b, c, units));
        } else if (turn < 49) {
            int t = odd(next(100));
            Check.due(at + "cancel " + t, house.cancel(t), model.cancel(t));
        } else if (turn < 51) {
            int r = anyRace();
            int n = anyRunner();
            Check.due(at + "scratch " + r + " " + n, house.scratch(r, n), model.scratch(r, n));
        } else if (turn < 52 && call > 100) {
            int r = anyRace();
            Check.due(at + "off " + r, house.off(r), model.off(r));
        } else if (turn < 62) {
            comparePlace(at);
        } else if (turn < 67) {
            int r = anyRace();
            Check.due(at + "official " + r, house.official(r), model.official(r));
        } else if (turn < 75) {
            int t = odd(next(200));
            Check.due(at + "pay " + t, house.pay(t), model.pay(t));
        } else {
            compareNamed(at);
        }
    }

    private static void tellCard(String at) {
        int r = anyRace();
        int other = anyRace();
        int deduction = odd(next(4) == 0 ? next(1000) : 10 * next(30));
        int unit = odd(10 * (1 + next(next(2) == 0 ? 100 : 5)));
        int kind = odd(next(4));
        int count = odd(2 + next(most - 1));
        int n = anyRunner();
        Check.due(at + "race " + r, house.race(r, count), model.race(r, count));
        Check.due(at + "pool " + r + " " + kind, house.pool(r, kind, deduction, unit),
                model.pool(r, kind, deduction, unit));
        if (next(3) == 0) {
            Check.due(at + "pair " + r + " " + other, house.pair(r, other, deduction, unit),
                    model.pair(r, other, deduction, unit));
            Check.due(at + "substitute " + r + " " + n, house.substitute(r, n), model.substitute(r, n));
        }
    }

    /** Mostly the least position that makes a result, so that ties and results come about. */
    private static void comparePlace(String at) {
        int r = anyRace();
        int n = anyRunner();
        int position = odd(next(6) == 0 ? next(25) : 1 + next(4));
        if (model.told(r) && next(5) > 0) {
            int placed = model.look(r, 3);
            int tied = model.told(r, n) ? model.positions[r][1 + next(model.runners[r])] : 0;
            position = tied > 0 && next(3) == 0 ? tied : placed + 1;
            for (int m = 1; m < 24 && (!model.runs(r, n) || model.positions[r][n] > 0); m++) {
                n = m;
            }
        }
        Check.due(at + "place " + r + " " + position + " " + n, house.place(r, position, n),
                model.place(r, position, n));
    }

    private static void compareNamed(String at) {
        int r = anyRace();
        int kind = odd(next(5));
        int a = anyRunner();
        int b = anyRunner();
        int c = anyRunner();
        String named = " " + r + " " + kind + " " + a + " " + b + " " + c;
        Check.due(at + "odds" + named, house.odds(r, kind, a, b, c), model.odds(r, kind, a, b, c));
        Check.due(at + "dividend" + named, house.dividend(r, kind, a, b, c), model.dividend(r, kind, a, b, c));
        Check.due(at + "units" + named, house.units(r, kind, a, b, c), model.units(r, kind, a, b, c));
    }

    private static void compareAll(String at) {
        for (int r = 0; r <= 13; r++) {
            for (int what = -1; what <= 12; what++) {
                for (int kind = -1; kind <= 5; kind++) {
                    Check.due(at + "sum " + r + " " + kind + " " + what,
                            house.sum(r, kind, what), model.sum(r, kind, what));
                }
                Check.due(at + "look " + r + " " + what, house.look(r, what), model.look(r, what));
            }
            for (int what = 100; what <= 125; what++) {
                Check.due(at + "look " + r + " " + what, house.look(r, what), model.look(r, what));
            }
        }
        for (int t = 0; t <= model.bets.size(); t++) {
            for (int what = -1; what <= 7; what++) {
                Check.due(at + "ticket " + t + " " + what, house.ticket(t, what), model.ticket(t, what));
            }
        }
        for (int what = -1; what <= 6; what++) {
            Check.due(at + "count " + what, house.count(what), model.count(what));
        }
        Check.due(at + "unclaimed", house.unclaimed(), model.unclaimed());
        Check.due(at + "carried", house.carried(), model.dayEnd);
        Check.due(at + "close", house.close(), model.close());
        for (int kind = 0; kind <= 4; kind++) {
            compareNamed(at);
        }
    }
}
