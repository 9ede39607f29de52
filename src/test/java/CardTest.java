/** Promises 1 to 5: a new object, race, pool, pair, substitute. */
public final class CardTest {
    public static void main(String[] args) {
        promise1NewObject();
        promise2Race();
        promise2AfterASale();
        promise3Pool();
        promise3StateAndSale();
        promise4Pair();
        promise4StateAndSale();
        promise5Substitute();
        promise5StateAndSale();
        twoObjects();
        Check.end();
    }

    private static void promise1NewObject() {
        ToteHouse x = new ToteHouse();
        Check.due("NONE", ToteHouse.NONE, -1);
        for (int r = -1; r <= 14; r++) {
            Check.due("new: look(" + r + ", 1)", x.look(r, 1), -2);
            for (int kind = -1; kind <= 5; kind++) {
                Check.due("new: sum", x.sum(r, kind, 0), -1);
                Check.due("new: sell", x.sell(r, kind, 1, 2, 3, 1), -1);
                Check.due("new: odds", x.odds(r, kind, 1, 2, 3), -1);
                Check.due("new: dividend", x.dividend(r, kind, 1, 2, 3), -1);
                Check.due("new: units", x.units(r, kind, 1, 2, 3), -1);
            }
        }
        for (int what = 0; what <= 5; what++) {
            Check.due("new: count(" + what + ")", x.count(what), 0);
        }
        Check.due("new: unclaimed", x.unclaimed(), 0);
        Check.due("new: carried", x.carried(), 0);
        Check.due("new: close", x.close(), 0);
        Check.due("new: ticket", x.ticket(0, 6), -1);
        Check.due("new: pay", x.pay(0), -3);
        Check.due("new: cancel", x.cancel(0), false);
        Check.due("new: off", x.off(1), false);
        Check.due("new: official", x.official(1), -1);
        Check.due("new: place", x.place(1, 1, 1), false);
        Check.due("new: scratch", x.scratch(1, 1), -1);
    }

    private static void promise2Race() {
        ToteHouse x = new ToteHouse();
        Check.due("race(0, 8)", x.race(0, 8), false);
        Check.due("race(13, 8)", x.race(13, 8), false);
        Check.due("race(min, 8)", x.race(Integer.MIN_VALUE, 8), false);
        Check.due("race(max, 8)", x.race(Integer.MAX_VALUE, 8), false);
        Check.due("race(1, 1)", x.race(1, 1), false);
        Check.due("race(1, 25)", x.race(1, 25), false);
        Check.due("race(1, min)", x.race(1, Integer.MIN_VALUE), false);
        Check.due("a refused race is not told", x.look(1, 0), -2);
        Check.due("race(1, 2)", x.race(1, 2), true);
        Check.due("race(12, 24)", x.race(12, 24), true);
        Check.due("race(1, 3) again", x.race(1, 3), false);
        Check.due("look(1, 1)", x.look(1, 1), 2);
        Check.due("look(12, 1)", x.look(12, 1), 24);
        Check.due("look(1, 0)", x.look(1, 0), 0);
        Check.due("look(1, 2)", x.look(1, 2), 2);
    }

    private static void promise2AfterASale() {
        ToteHouse x = new ToteHouse();
        x.race(1, 4);
        x.pool(1, 0, 0, 100);
        Check.due("off(1) is no sale", x.off(1), true);
        Check.due("race(2, 4) behind a race that is off", x.race(2, 4), true);
        x.pool(2, 0, 0, 100);
        Check.due("a refused sale", x.sell(2, 0, 9, 0, 0, 1), -4);
        Check.due("race(3, 4) behind it", x.race(3, 4), true);
        x.sell(2, 0, 1, 0, 0, 1);
        Check.due("race(4, 4) behind a sale", x.race(4, 4), false);
        x.cancel(0);
        Check.due("race(4, 4) when all is cancelled", x.race(4, 4), false);
        Check.due("look(4, 1)", x.look(4, 1), -2);
    }

    private static void promise3Pool() {
        ToteHouse x = new ToteHouse();
        x.race(3, 8);
        Check.due("pool(2, ..) not told", x.pool(2, 0, 100, 100), false);
        Check.due("pool(0, ..)", x.pool(0, 0, 100, 100), false);
        Check.due("pool(13, ..)", x.pool(13, 0, 100, 100), false);
        Check.due("kind -1", x.pool(3, -1, 100, 100), false);
        Check.due("kind 4", x.pool(3, 4, 100, 100), false);
        Check.due("kind 5", x.pool(3, 5, 100, 100), false);
        Check.due("deduction -1", x.pool(3, 0, -1, 100), false);
        Check.due("deduction 1000", x.pool(3, 0, 1000, 100), false);
        Check.due("unit 0", x.pool(3, 0, 100, 0), false);
        Check.due("unit -10", x.pool(3, 0, 100, -10), false);
        Check.due("unit 5", x.pool(3, 0, 100, 5), false);
        Check.due("unit 15", x.pool(3, 0, 100, 15), false);
        Check.due("unit 1001", x.pool(3, 0, 100, 1001), false);
        Check.due("unit 1010", x.pool(3, 0, 100, 1010), false);
        Check.due("no pool yet", x.sum(3, 0, 0), -1);
        Check.due("kind 0", x.pool(3, 0, 0, 10), true);
        Check.due("kind 1", x.pool(3, 1, 999, 1000), true);
        Check.due("kind 2", x.pool(3, 2, 1, 20), true);
        Check.due("kind 3", x.pool(3, 3, 998, 990), true);
        for (int kind = 0; kind <= 3; kind++) {
            Check.due("kind " + kind + " again", x.pool(3, kind, 100, 100), false);
            Check.due("sum of it", x.sum(3, kind, 0), 0);
        }
        x.sell(3, 0, 1, 0, 0, 3);
        Check.due("unit 10 stands", x.sum(3, 0, 0), 30);
    }

    private static void promise3StateAndSale() {
        ToteHouse x = new ToteHouse();
        x.race(1, 4);
        x.race(2, 4);
        x.race(3, 4);
        x.pool(3, 0, 0, 10);
        x.off(1);
        Check.due("pool of a race that is off", x.pool(1, 0, 100, 100), false);
        x.scratch(2, 1);
        Check.due("pool of an open one", x.pool(2, 0, 100, 100), true);
        x.sell(3, 0, 1, 0, 0, 1);
        Check.due("pool behind a sale", x.pool(2, 1, 100, 100), false);
        Check.due("none is there", x.sum(2, 1, 0), -1);
    }

    private static void promise4Pair() {
        ToteHouse x = new ToteHouse();
        x.race(1, 4);
        x.race(2, 5);
        Check.due("pair(1, 1)", x.pair(1, 1, 100, 100), false);
        Check.due("pair(1, 3)", x.pair(1, 3, 100, 100), false);
        Check.due("pair(3, 1)", x.pair(3, 1, 100, 100), false);
        Check.due("pair(0, 1)", x.pair(0, 1, 100, 100), false);
        Check.due("pair(1, 13)", x.pair(1, 13, 100, 100), false);
        Check.due("deduction -1", x.pair(1, 2, -1, 100), false);
        Check.due("deduction 1000", x.pair(1, 2, 1000, 100), false);
        Check.due("unit 0", x.pair(1, 2, 100, 0), false);
        Check.due("unit 25", x.pair(1, 2, 100, 25), false);
        Check.due("unit 1010", x.pair(1, 2, 100, 1010), false);
        Check.due("none yet", x.sum(1, 4, 0), -1);
        Check.due("pair(2, 1)", x.pair(2, 1, 999, 1000), true);
        Check.due("another", x.pair(1, 2, 100, 100), false);
        Check.due("sum whatever r", x.sum(-7, 4, 0), 0);
        Check.due("a is of race 2", x.sell(99, 4, 5, 4, -3, 2), 0);
        Check.due("b is of race 1", x.sell(99, 4, 4, 5, 0, 2), -4);
        Check.due("unit 1000 stands", x.sum(0, 4, 0), 2000);
    }

    private static void promise4StateAndSale() {
        ToteHouse x = new ToteHouse();
        for (int r = 1; r <= 4; r++) {
            x.race(r, 4);
        }
        x.off(1);
        Check.due("first is off", x.pair(1, 2, 100, 100), false);
        Check.due("second is off", x.pair(2, 1, 100, 100), false);
        x.pool(4, 0, 0, 10);
        x.sell(4, 0, 1, 0, 0, 1);
        Check.due("behind a sale", x.pair(2, 3, 100, 100), false);
        Check.due("none is there", x.sum(0, 4, 0), -1);
    }

    private static void promise5Substitute() {
        ToteHouse x = new ToteHouse();
        x.race(1, 4);
        x.race(2, 4);
        x.race(3, 4);
        Check.due("no DOUBLE", x.substitute(1, 1), false);
        x.pair(1, 2, 100, 100);
        Check.due("not of the DOUBLE", x.substitute(3, 1), false);
        Check.due("not told", x.substitute(4, 1), false);
        Check.due("runner 0", x.substitute(1, 0), false);
        Check.due("runner 5", x.substitute(1, 5), false);
        Check.due("without", x.look(1, 4), 0);
        Check.due("substitute(1, 2)", x.substitute(1, 2), true);
        Check.due("look", x.look(1, 4), 2);
        Check.due("substitute(1, 4)", x.substitute(1, 4), true);
        Check.due("in place of 2", x.look(1, 4), 4);
        Check.due("substitute(2, 1)", x.substitute(2, 1), true);
        Check.due("of the second", x.look(2, 4), 1);
        x.scratch(1, 3);
        Check.due("a scratched one", x.substitute(1, 3), false);
        x.scratch(1, 4);
        Check.due("goes on being told when scratched", x.look(1, 4), 4);
    }

    private static void promise5StateAndSale() {
        ToteHouse x = new ToteHouse();
        x.race(1, 4);
        x.race(2, 4);
        x.pair(1, 2, 100, 100);
        x.off(2);
        Check.due("a race that is off", x.substitute(2, 1), false);
        Check.due("the other is open", x.substitute(1, 1), true);
        ToteHouse y = new ToteHouse();
        y.race(1, 4);
        y.race(2, 4);
        y.pair(1, 2, 100, 100);
        y.sell(0, 4, 1, 1, 0, 1);
        Check.due("behind a sale", y.substitute(1, 1), false);
        Check.due("none is there", y.look(1, 4), 0);
    }

    private static void twoObjects() {
        ToteHouse x = new ToteHouse();
        ToteHouse y = new ToteHouse();
        x.race(1, 4);
        Check.due("the other's card", y.look(1, 1), -2);
        Check.due("race(1, 6) of the other", y.race(1, 6), true);
        Check.due("its own", x.look(1, 1), 4);
    }
}
