/** Promises 6, 7, 19, 20, 22: sell, cancel, ticket, units, count. */
public final class TicketTest {
    public static void main(String[] args) {
        promise6NumbersAndNames();
        promise6FirstOfTheRefusals();
        promise6Double();
        promise6SixHundred();
        promise7Cancel();
        promise7Double();
        promise19Ticket();
        promise20Units();
        promise20AfterResults();
        promise22Count();
        Check.end();
    }

    /** Race 1 with 6 runners and all pools, race 2 with 4; the double of 1 and 2. */
    private static ToteHouse house() {
        ToteHouse x = new ToteHouse();
        x.race(1, 6);
        x.race(2, 4);
        for (int kind = 0; kind <= 3; kind++) {
            x.pool(1, kind, 100, 100);
        }
        x.pair(1, 2, 100, 50);
        return x;
    }

    private static void names(ToteHouse x, int t, int a, int b, int c) {
        Check.due("ticket(" + t + ", 2)", x.ticket(t, 2), a);
        Check.due("ticket(" + t + ", 3)", x.ticket(t, 3), b);
        Check.due("ticket(" + t + ", 4)", x.ticket(t, 4), c);
    }

    private static void promise6NumbersAndNames() {
        ToteHouse x = house();
        Check.due("WIN looks at a alone", x.sell(1, 0, 6, -5, 99, 1), 0);
        Check.due("PLACE looks at a alone", x.sell(1, 1, 1, 1, 1, 1000), 1);
        Check.due("PAIR looks at two", x.sell(1, 2, 6, 5, 6, 2), 2);
        Check.due("ORDER looks at three", x.sell(1, 3, 4, 6, 5, 3), 3);
        Check.due("DOUBLE looks at two", x.sell(77, 4, 6, 4, 99, 4), 4);
        names(x, 0, 6, 0, 0);
        names(x, 1, 1, 0, 0);
        names(x, 2, 6, 5, 0);
        names(x, 3, 4, 6, 5);
        names(x, 4, 6, 4, 0);
        Check.due("staked", x.sum(1, 1, 0), 100000);
        Check.due("a refused sale", x.sell(1, 0, 7, 0, 0, 1), -4);
        Check.due("takes no number", x.sell(1, 0, 2, 0, 0, 1), 5);
    }

    private static void promise6FirstOfTheRefusals() {
        ToteHouse x = house();
        Check.due("no such pool", x.sell(2, 0, 9, 9, 9, 0), -1);
        Check.due("no such race", x.sell(3, 0, 9, 9, 9, 0), -1);
        Check.due("race 0", x.sell(0, 0, 1, 0, 0, 1), -1);
        Check.due("kind 5", x.sell(1, 5, 1, 2, 3, 1), -1);
        Check.due("kind -1", x.sell(1, -1, 1, 2, 3, 1), -1);
        Check.due("units 0", x.sell(1, 0, 9, 0, 0, 0), -2);
        Check.due("units 1001", x.sell(1, 0, 9, 0, 0, 1001), -2);
        Check.due("units min", x.sell(1, 0, 1, 0, 0, Integer.MIN_VALUE), -2);
        Check.due("a 0", x.sell(1, 0, 0, 0, 0, 1), -4);
        Check.due("a min", x.sell(1, 0, Integer.MIN_VALUE, 0, 0, 1), -4);
        Check.due("PAIR b 0", x.sell(1, 2, 1, 0, 0, 1), -4);
        Check.due("ORDER c 7", x.sell(1, 3, 1, 1, 7, 1), -4);
        Check.due("PAIR 1, 1", x.sell(1, 2, 1, 1, 0, 1), -6);
        Check.due("ORDER 1, 1, 2", x.sell(1, 3, 1, 1, 2, 1), -6);
        Check.due("ORDER 1, 2, 1", x.sell(1, 3, 1, 2, 1, 1), -6);
        Check.due("ORDER 2, 1, 1", x.sell(1, 3, 2, 1, 1, 1), -6);
        x.scratch(1, 3);
        Check.due("WIN of a scratched one", x.sell(1, 0, 3, 0, 0, 1), -5);
        Check.due("PAIR a scratched", x.sell(1, 2, 3, 3, 0, 1), -5);
        Check.due("PAIR b scratched", x.sell(1, 2, 1, 3, 0, 1), -5);
        Check.due("ORDER c scratched", x.sell(1, 3, 1, 1, 3, 1), -5);
        Check.due("no such runner ahead of scratched", x.sell(1, 2, 3, 7, 0, 1), -4);
        Check.due("PAIR looks not at c", x.sell(1, 2, 1, 2, 3, 1), 0);
        x.off(1);
        Check.due("not open", x.sell(1, 0, 9, 0, 0, 1), -3);
        Check.due("units ahead of not open", x.sell(1, 0, 1, 0, 0, 1001), -2);
        Check.due("nothing was sold by these", x.count(0), 1);
    }

    private static void promise6Double() {
        ToteHouse x = house();
        Check.due("both the same number", x.sell(1, 4, 3, 3, 0, 1), 0);
        Check.due("a 7", x.sell(1, 4, 7, 1, 0, 1), -4);
        Check.due("b 5", x.sell(1, 4, 1, 5, 0, 1), -4);
        x.scratch(2, 4);
        Check.due("b scratched", x.sell(1, 4, 1, 4, 0, 1), -5);
        Check.due("a of that number", x.sell(1, 4, 4, 1, 0, 1), 1);
        x.off(2);
        Check.due("second is off", x.sell(1, 4, 1, 1, 0, 1), -3);
        ToteHouse y = house();
        y.off(1);
        Check.due("first is off", y.sell(2, 4, 1, 1, 0, 1), -3);
    }

    /** The last of them come behind the 512 calls that are promised: here it goes on all the same. */
    private static void promise6SixHundred() {
        ToteHouse x = house();
        for (int t = 0; t < 480; t++) {
            Check.due("sale " + t, x.sell(1, 0, 1 + t % 6, 0, 0, 1000), t);
        }
        Check.due("staked", x.sum(1, 0, 0), 48000000);
        for (int t = 480; t < 600; t++) {
            Check.due("sale " + t, x.sell(1, 0, 1, 0, 0, 1), t);
        }
        Check.due("601st", x.sell(1, 0, 1, 0, 0, 1), -7);
        Check.due("no units ahead of that", x.sell(1, 0, 1, 0, 0, 0), -2);
        Check.due("scratched ahead of that", x.scratch(1, 6), 80);
        Check.due("scratched ahead of that", x.sell(1, 0, 6, 0, 0, 1), -5);
        Check.due("count(0)", x.count(0), 600);
        Check.due("count(1)", x.count(1), 520);
        Check.due("ticket(599, 5)", x.ticket(599, 5), 1);
        Check.due("ticket(600, 5)", x.ticket(600, 5), -1);
    }

    private static void promise7Cancel() {
        ToteHouse x = house();
        x.sell(1, 0, 1, 0, 0, 7);
        x.sell(1, 0, 2, 0, 0, 5);
        x.sell(1, 0, 3, 0, 0, 1);
        Check.due("cancel(-1)", x.cancel(-1), false);
        Check.due("cancel(3)", x.cancel(3), false);
        Check.due("cancel(600)", x.cancel(600), false);
        Check.due("cancel(max)", x.cancel(Integer.MAX_VALUE), false);
        Check.due("cancel(0)", x.cancel(0), true);
        Check.due("again", x.cancel(0), false);
        Check.due("what it is", x.ticket(0, 6), 1);
        Check.due("staked", x.sum(1, 0, 0), 600);
        Check.due("refunded", x.sum(1, 0, 1), 0);
        Check.due("units", x.sum(1, 0, 9), 6);
        Check.due("went back", x.count(5), 700);
        x.scratch(1, 2);
        Check.due("a refunded one", x.cancel(1), false);
        Check.due("went back", x.count(5), 1200);
        x.off(1);
        Check.due("the race is off", x.cancel(2), false);
        Check.due("it is sold", x.ticket(2, 6), 0);
        x.scratch(1, 1);
        Check.due("cancelled stays", x.ticket(0, 6), 1);
    }

    private static void promise7Double() {
        ToteHouse x = house();
        x.sell(0, 4, 1, 2, 0, 2);
        x.sell(0, 4, 1, 3, 0, 3);
        Check.due("both open", x.cancel(0), true);
        Check.due("went back", x.count(5), 100);
        x.off(2);
        Check.due("second is off", x.cancel(1), false);
        ToteHouse y = house();
        y.sell(0, 4, 1, 2, 0, 2);
        y.sell(1, 0, 1, 0, 0, 2);
        y.off(1);
        Check.due("first is off", y.cancel(0), false);
        Check.due("WIN of it", y.cancel(1), false);
    }

    private static void promise19Ticket() {
        ToteHouse x = house();
        x.sell(1, 3, 5, 3, 1, 12);
        x.sell(2, 4, 5, 3, 1, 13);
        int[] order = {1, 3, 5, 3, 1, 12, 0};
        int[] twice = {0, 4, 5, 3, 0, 13, 0};
        for (int what = 0; what <= 6; what++) {
            Check.due("ticket(0, " + what + ")", x.ticket(0, what), order[what]);
            Check.due("ticket(1, " + what + ")", x.ticket(1, what), twice[what]);
        }
        Check.due("what -1", x.ticket(0, -1), -1);
        Check.due("what 7", x.ticket(0, 7), -1);
        Check.due("t -1", x.ticket(-1, 0), -1);
        Check.due("t 2", x.ticket(2, 0), -1);
        Check.due("t max", x.ticket(Integer.MAX_VALUE, 0), -1);
        x.scratch(1, 5);
        Check.due("refunded", x.ticket(0, 6), 2);
        Check.due("names as they were", x.ticket(0, 2), 5);
    }

    private static void promise20Units() {
        ToteHouse x = house();
        x.sell(1, 0, 1, 0, 0, 7);
        x.sell(1, 0, 1, 0, 0, 4);
        x.sell(1, 2, 1, 2, 0, 5);
        x.sell(1, 2, 2, 1, 0, 6);
        x.sell(1, 3, 1, 2, 3, 8);
        x.sell(1, 4, 1, 2, 0, 9);
        Check.due("WIN", x.units(1, 0, 1, -1, 99), 11);
        Check.due("WIN without any", x.units(1, 0, 2, 0, 0), 0);
        Check.due("PLACE without any", x.units(1, 1, 1, 0, 0), 0);
        Check.due("PAIR", x.units(1, 2, 1, 2, 1), 11);
        Check.due("PAIR the other way", x.units(1, 2, 2, 1, 1), 11);
        Check.due("PAIR 1, 3", x.units(1, 2, 1, 3, 0), 0);
        Check.due("ORDER", x.units(1, 3, 1, 2, 3), 8);
        Check.due("ORDER another way", x.units(1, 3, 2, 1, 3), 0);
        Check.due("ORDER another third", x.units(1, 3, 1, 2, 4), 0);
        Check.due("DOUBLE", x.units(55, 4, 1, 2, 77), 9);
        Check.due("DOUBLE the other way", x.units(55, 4, 2, 1, 77), 0);
        Check.due("DOUBLE the same number", x.units(55, 4, 2, 2, 77), 0);
        Check.due("no such pool", x.units(2, 0, 1, 0, 0), -1);
        Check.due("no such race", x.units(13, 0, 1, 0, 0), -1);
        Check.due("no such kind", x.units(1, 7, 1, 0, 0), -1);
        Check.due("no runner 7", x.units(1, 0, 7, 0, 0), -1);
        Check.due("no runner 0", x.units(1, 2, 1, 0, 0), -1);
        Check.due("no third", x.units(1, 3, 1, 2, 0), -1);
        Check.due("DOUBLE b 5", x.units(1, 4, 5, 5, 0), -1);
        Check.due("PAIR two are one", x.units(1, 2, 1, 1, 0), -1);
        Check.due("ORDER two are one", x.units(1, 3, 1, 2, 2), -1);
        x.cancel(0);
        Check.due("one is cancelled", x.units(1, 0, 1, 0, 0), 4);
        x.scratch(1, 1);
        Check.due("a scratched one can be named", x.units(1, 0, 1, 0, 0), 0);
        Check.due("all of it was refunded", x.units(1, 3, 1, 2, 3), 0);
    }

    private static void promise20AfterResults() {
        ToteHouse x = house();
        x.sell(1, 0, 1, 0, 0, 7);
        x.sell(1, 0, 1, 0, 0, 4);
        x.sell(1, 0, 2, 0, 0, 3);
        x.off(1);
        x.place(1, 1, 1);
        x.place(1, 2, 2);
        x.place(1, 3, 3);
        x.official(1);
        x.pay(0);
        Check.due("sold and paid", x.units(1, 0, 1, 0, 0), 11);
        Check.due("of the pool", x.sum(1, 0, 9), 14);
        Check.due("lost", x.units(1, 0, 2, 0, 0), 3);
    }

    private static void promise22Count() {
        ToteHouse x = house();
        x.sell(1, 0, 1, 0, 0, 7);
        x.sell(1, 0, 2, 0, 0, 5);
        x.sell(0, 4, 3, 3, 0, 3);
        x.sell(1, 0, 4, 0, 0, 1);
        x.sell(1, 0, 1, 0, 0, 1);
        x.cancel(0);
        x.scratch(1, 2);
        x.scratch(2, 3);
        x.off(1);
        x.place(1, 1, 4);
        x.place(1, 2, 1);
        x.place(1, 3, 3);
        x.official(1);
        Check.due("pay(3)", x.pay(3), 180);
        long[] counts = {5, 1, 1, 2, 1, 700 + 500 + 150};
        for (int what = 0; what <= 5; what++) {
            Check.due("count(" + what + ")", x.count(what), counts[what]);
        }
        ToteHouse y = house();
        for (int t = 0; t < 10; t++) {
            y.sell(1, 0, t < 4 ? 1 : 2, 0, 0, 1);
        }
        y.sell(1, 0, 3, 0, 0, 1);
        y.cancel(9);
        y.cancel(8);
        y.scratch(1, 3);
        y.off(1);
        y.place(1, 1, 1);
        y.place(1, 2, 2);
        y.place(1, 3, 4);
        y.official(1);
        y.pay(0);
        y.pay(1);
        y.pay(2);
        Check.due("11 in all", y.count(0), 11);
        Check.due("sold", y.count(1), 5);
        Check.due("cancelled", y.count(2), 2);
        Check.due("refunded", y.count(3), 1);
        Check.due("paid", y.count(4), 3);
        Check.due("count(-1)", x.count(-1), -1);
        Check.due("count(6)", x.count(6), -1);
    }
}
