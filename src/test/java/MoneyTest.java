/** Terms 2 to 4 and promises 12 to 18: odds, dividend, pay, sum, unclaimed, carried, close. */
public final class MoneyTest {
    public static void main(String[] args) {
        winTiesAndRounding();
        placeDepth();
        placeHouseCost();
        placeProfit();
        pairTies();
        orderTies();
        orderCarries();
        orderCarriesPastOfficial();
        doubleTies();
        doubleVoid();
        promise12OddsOfOneRace();
        promise12Place();
        promise12FewRunners();
        promise12Double();
        promise12Carried();
        promise13Dividend();
        promise14Pay();
        promise15Sum();
        promise16Unclaimed();
        promise18Close();
        greatSums();
        Check.end();
    }

    private static ToteHouse one(int runners, int kind, int deduction, int unit) {
        ToteHouse x = new ToteHouse();
        x.race(1, runners);
        x.pool(1, kind, deduction, unit);
        return x;
    }

    /** The race goes off, runners 1, 2, .. get the positions, and it is official. */
    private static int finish(ToteHouse x, int r, int... positions) {
        x.off(r);
        for (int n = 1; n <= positions.length; n++) {
            x.place(r, positions[n - 1], n);
        }
        return x.official(r);
    }

    /** What 2 to 6, DEDUCTED to CARRIED OUT, then k and 11. */
    private static void settled(String run, ToteHouse x, int kind, long... want) {
        int[] whats = {2, 3, 4, 5, 6, 10, 11};
        for (int i = 0; i < whats.length; i++) {
            Check.due(run + ": sum(1, " + kind + ", " + whats[i] + ")", x.sum(1, kind, whats[i]), want[i]);
        }
    }

    private static void winTiesAndRounding() {
        ToteHouse x = one(6, 0, 155, 10);
        x.sell(1, 0, 1, 0, 0, 3);
        x.sell(1, 0, 2, 0, 0, 1);
        x.sell(1, 0, 4, 0, 0, 4);
        x.sell(1, 0, 1, 0, 0, 1);
        finish(x, 1, 1, 1, 1, 4);
        // S 90, DEDUCTED 13.95, NET 77: two of the three tied have units, a SHARE is 38
        settled("win", x, 0, 13, 30, 47, 0, 0, 2, 1);
        Check.due("38 / 4 is below ten", x.dividend(1, 0, 1, 0, 0), 0);
        Check.due("38 / 1", x.dividend(1, 0, 2, 0, 0), 30);
        Check.due("tied without units", x.dividend(1, 0, 3, 0, 0), 0);
        Check.due("pay of a dividend 0", x.pay(0), 0);
        Check.due("it is paid", x.ticket(0, 6), 3);
        Check.due("again", x.pay(0), -1);
        ToteHouse y = one(6, 0, 0, 10);
        y.sell(1, 0, 1, 0, 0, 1);
        y.sell(1, 0, 2, 0, 0, 2);
        y.sell(1, 0, 3, 0, 0, 4);
        finish(y, 1, 1, 1, 1);
        // NET 70: SHARES 23, the odd cent goes to the breakage
        settled("win of three", y, 0, 0, 20 + 20, 30, 0, 0, 3, 1);
    }

    private static ToteHouse placeHouse(int runners, int deduction) {
        ToteHouse x = one(runners, 1, deduction, 10);
        x.sell(1, 1, 1, 0, 0, 10);
        x.sell(1, 1, 2, 0, 0, 1);
        x.sell(1, 1, 3, 0, 0, 1);
        x.sell(1, 1, 4, 0, 0, 2);
        return x;
    }

    private static void placeDepth() {
        int[] runners = {4, 5, 7, 8, 24};
        int[] winners = {0, 2, 2, 3, 3};
        for (int i = 0; i < runners.length; i++) {
            ToteHouse x = placeHouse(runners[i], 100);
            finish(x, 1, 1, 2, 3, 4);
            Check.due("k with " + runners[i], x.sum(1, 1, 10), winners[i]);
            Check.due("void with " + runners[i], x.sum(1, 1, 11), winners[i] == 0 ? 2 : 1);
        }
        ToteHouse eight = placeHouse(8, 100);
        eight.scratch(1, 8);
        finish(eight, 1, 1, 2, 3, 4);
        Check.due("eight less one", eight.sum(1, 1, 10), 2);
        ToteHouse five = placeHouse(5, 100);
        five.scratch(1, 5);
        finish(five, 1, 1, 2, 3, 4);
        Check.due("five less one: void", five.sum(1, 1, 11), 2);
        ToteHouse tied = placeHouse(8, 100);
        finish(tied, 1, 1, 2, 3, 3);
        Check.due("two third", tied.sum(1, 1, 10), 4);
        ToteHouse seven = placeHouse(7, 100);
        finish(seven, 1, 1, 2, 2, 4);
        Check.due("two second", seven.sum(1, 1, 10), 3);
        ToteHouse first = placeHouse(7, 100);
        finish(first, 1, 1, 1, 3, 4);
        Check.due("two first leave no second", first.sum(1, 1, 10), 2);
        ToteHouse all = placeHouse(5, 100);
        finish(all, 1, 1, 1, 1, 1);
        Check.due("four first", all.sum(1, 1, 10), 4);
    }

    private static void placeHouseCost() {
        ToteHouse x = placeHouse(8, 500);
        Check.due("odds below", x.odds(1, 1, 1, 2, 3), 10);
        finish(x, 1, 1, 2, 3, 4);
        // S 140, NET 70, 120 back
        settled("house cost", x, 1, 70, 120, 0, 50, 0, 3, 1);
        Check.due("dividend", x.dividend(1, 1, 1, 0, 0), 10);
        Check.due("dividend of the fourth", x.dividend(1, 1, 4, 0, 0), 0);
        Check.due("books", x.close(), 0);
        ToteHouse y = one(8, 1, 0, 50);
        y.sell(1, 1, 1, 0, 0, 3);
        y.sell(1, 1, 2, 0, 0, 2);
        finish(y, 1, 1, 2, 3);
        // NET is just what goes back
        settled("no profit", y, 1, 0, 250, 0, 0, 0, 2, 1);
        Check.due("the unit", y.dividend(1, 1, 2, 0, 0), 50);
    }

    private static void placeProfit() {
        ToteHouse x = placeHouse(8, 500);
        Check.due("odds of 2", x.odds(1, 1, 2, 3, 4), 20);
        Check.due("odds of 4", x.odds(1, 1, 4, 3, 2), 10);
        finish(x, 1, 4, 1, 2, 3);
        // NET 70, 40 back, PROFIT 30, SHARE 10
        settled("profit", x, 1, 70, 20 + 20 + 20, 10, 0, 0, 3, 1);
        Check.due("10 and 10 / 1", x.dividend(1, 1, 2, 0, 0), 20);
        Check.due("10 and 10 / 2", x.dividend(1, 1, 4, 0, 0), 10);
        Check.due("books", x.close(), 0);
    }

    private static ToteHouse pairHouse() {
        ToteHouse x = one(6, 2, 250, 20);
        x.sell(1, 2, 1, 2, 0, 3);
        x.sell(1, 2, 2, 1, 0, 2);
        x.sell(1, 2, 3, 1, 0, 5);
        x.sell(1, 2, 4, 5, 0, 10);
        return x;
    }

    private static void pairTies() {
        ToteHouse x = pairHouse();
        finish(x, 1, 2, 1, 3);
        settled("1 and 2", x, 2, 100, 300, 0, 0, 0, 1, 1);
        Check.due("either first", x.dividend(1, 2, 1, 2, 0), 60);
        Check.due("either first", x.dividend(1, 2, 2, 1, 0), 60);
        Check.due("pay", x.pay(1), 120);
        ToteHouse y = pairHouse();
        finish(y, 1, 1, 2, 2);
        settled("2 and 3 second", y, 2, 100, 300, 0, 0, 0, 2, 1);
        Check.due("1 and 3", y.dividend(1, 2, 3, 1, 0), 30);
        Check.due("2 and 3", y.dividend(1, 2, 3, 2, 0), 0);
        ToteHouse z = pairHouse();
        finish(z, 1, 1, 1, 3);
        settled("two first", z, 2, 100, 300, 0, 0, 0, 1, 1);
        Check.due("the third is none", z.dividend(1, 2, 1, 3, 0), 0);
        ToteHouse v = pairHouse();
        finish(v, 1, 1, 1, 1, 1, 1);
        // NET 300, three SHARES of 100: 20, 20 and 10 a unit
        settled("five first", v, 2, 100, 100 + 100 + 100, 0, 0, 0, 3, 1);
        Check.due("4 and 5", v.dividend(1, 2, 5, 4, 0), 10);
        ToteHouse u = pairHouse();
        u.sell(1, 2, 2, 3, 0, 5);
        finish(u, 1, 1, 2, 2);
        // S 500, NET 375
        settled("2 and 3 second, 2 with 3 bet on", u, 2, 125, 300, 75, 0, 0, 2, 1);
        Check.due("two second ones are none", u.dividend(1, 2, 2, 3, 0), 0);
        Check.due("nor is their ticket paid", u.pay(4), 0);
        ToteHouse t = pairHouse();
        finish(t, 1, 1, 0, 3, 2);
        settled("1 with the third: void", t, 2, 0, 0, 0, 0, 0, 0, 2);
        ToteHouse w = pairHouse();
        finish(w, 1, 3, 1, 2);
        settled("2 and 3: void", w, 2, 0, 0, 0, 0, 0, 0, 2);
        Check.due("all refunded", w.sum(1, 2, 1), 400);
    }

    private static ToteHouse orderHouse() {
        ToteHouse x = one(6, 3, 155, 10);
        x.sell(1, 3, 1, 2, 3, 7);
        x.sell(1, 3, 1, 3, 2, 4);
        x.sell(1, 3, 2, 1, 3, 3);
        return x;
    }

    private static void orderTies() {
        ToteHouse x = orderHouse();
        finish(x, 1, 1, 2, 3);
        // S 140, DEDUCTED 21.7, NET 119
        settled("1 2 3", x, 3, 21, 70, 49, 0, 0, 1, 1);
        Check.due("pay", x.pay(0), 70);
        Check.due("pay of another order", x.pay(1), 0);
        ToteHouse y = orderHouse();
        finish(y, 1, 1, 2, 2);
        settled("two second", y, 3, 21, 40, 79, 0, 0, 2, 1);
        Check.due("59 / 7", y.dividend(1, 3, 1, 2, 3), 0);
        Check.due("59 / 4", y.dividend(1, 3, 1, 3, 2), 10);
        ToteHouse z = orderHouse();
        finish(z, 1, 1, 1, 3);
        settled("two first", z, 3, 21, 30, 89, 0, 0, 2, 1);
        Check.due("59 / 3", z.dividend(1, 3, 2, 1, 3), 10);
        Check.due("the third in between", z.dividend(1, 3, 1, 3, 2), 0);
        ToteHouse v = orderHouse();
        finish(v, 1, 1, 1, 1);
        // three SHARES of 39
        settled("three first", v, 3, 21, 30, 89, 0, 0, 3, 1);
        ToteHouse w = orderHouse();
        finish(w, 1, 1, 2, 3, 3);
        settled("two third", w, 3, 21, 70, 49, 0, 0, 1, 1);
        ToteHouse u = orderHouse();
        finish(u, 1, 1, 2, 4, 3);
        settled("1 2 and the fourth", u, 3, 21, 0, 0, 0, 119, 0, 1);
        ToteHouse t = orderHouse();
        finish(t, 1, 1, 3, 4, 2);
        settled("1, then the third and the fourth", t, 3, 21, 0, 0, 0, 119, 0, 1);
    }

    private static ToteHouse fourOrders() {
        ToteHouse x = new ToteHouse();
        for (int r = 1; r <= 5; r++) {
            x.race(r, 4);
        }
        x.pool(1, 3, 100, 100);
        x.pool(2, 0, 100, 100);
        x.pool(3, 3, 100, 100);
        x.pool(4, 3, 100, 100);
        x.sell(1, 3, 4, 3, 2, 1);
        x.sell(3, 3, 4, 3, 2, 2);
        x.sell(4, 3, 1, 2, 3, 1);
        return x;
    }

    private static void orderCarries() {
        ToteHouse x = fourOrders();
        Check.due("one pool", finish(x, 1, 1, 2, 3), 1);
        settled("out", x, 3, 10, 0, 0, 0, 90, 0, 1);
        Check.due("not refunded", x.sum(1, 3, 1), 0);
        Check.due("into 3", x.sum(3, 3, 7), 90);
        Check.due("not into 4", x.sum(4, 3, 7), 0);
        Check.due("pay of the lost", x.pay(0), 0);
        Check.due("still sold", x.ticket(0, 6), 0);
        x.off(4);
        finish(x, 3, 1, 2, 3);
        Check.due("on from 3", x.sum(3, 3, 6), 180 + 90);
        Check.due("deducted of its own stakes alone", x.sum(3, 3, 2), 20);
        Check.due("in stays told", x.sum(3, 3, 7), 90);
        Check.due("into 4, which is off", x.sum(4, 3, 7), 270);
        finish(x, 4, 1, 2, 3);
        Check.due("won with what came in", x.dividend(4, 3, 1, 2, 3), 90 + 270);
        Check.due("nothing out", x.sum(4, 3, 6), 0);
        Check.due("day's end", x.carried(), 0);
        finish(x, 2, 1, 2, 3);
        finish(x, 5, 1, 2, 3);
        Check.due("books", x.close(), 0);
    }

    private static void orderCarriesPastOfficial() {
        ToteHouse x = fourOrders();
        finish(x, 3, 1, 2, 3);
        Check.due("3 into 4", x.sum(4, 3, 7), 180);
        finish(x, 1, 1, 2, 3);
        Check.due("1 past 3, more to what is there", x.sum(4, 3, 7), 270);
        Check.due("3 as it was", x.sum(3, 3, 7), 0);
        finish(x, 4, 4, 3, 2, 1);
        Check.due("day's end", x.carried(), 90 + 270);
        ToteHouse z = new ToteHouse();
        z.race(11, 4);
        z.race(12, 4);
        z.pool(11, 3, 0, 10);
        z.pool(12, 3, 0, 10);
        z.sell(11, 3, 1, 2, 3, 1);
        finish(z, 11, 2, 1, 3);
        Check.due("into 12", z.sum(12, 3, 7), 10);
        finish(z, 12, 2, 1, 3);
        Check.due("behind 12", z.carried(), 10);
        ToteHouse y = fourOrders();
        finish(y, 4, 2, 1, 3);
        Check.due("the last at once", y.carried(), 90);
        finish(y, 3, 1, 2, 3);
        Check.due("no race of a lesser number", y.sum(1, 3, 7), 0);
        Check.due("more to the day's end", y.carried(), 90 + 180);
    }

    private static ToteHouse doubleHouse() {
        ToteHouse x = new ToteHouse();
        x.race(1, 4);
        x.race(2, 4);
        x.pair(2, 1, 100, 100);
        x.sell(0, 4, 1, 2, 0, 2);
        x.sell(0, 4, 1, 1, 0, 3);
        x.sell(0, 4, 3, 2, 0, 5);
        return x;
    }

    private static void doubleTies() {
        ToteHouse x = doubleHouse();
        Check.due("the second first", finish(x, 1, 2, 1, 3), 0);
        Check.due("pay waits", x.pay(0), -2);
        Check.due("its books wait", x.sum(0, 4, 2), 0);
        Check.due("the first", finish(x, 2, 1, 2, 3), 1);
        settled("1 then 2", x, 4, 100, 900, 0, 0, 0, 1, 1);
        Check.due("pay", x.pay(0), 900);
        Check.due("pay", x.pay(1), 0);
        ToteHouse y = doubleHouse();
        finish(y, 2, 1, 4, 1, 3);
        finish(y, 1, 1, 1, 3);
        // NET 900, three SHARES of 300 over 2, 3 and 5 units
        settled("ties in both", y, 4, 100, 900, 0, 0, 0, 3, 1);
        Check.due("300 / 3", y.dividend(-1, 4, 1, 1, 0), 100);
        Check.due("300 / 5", y.dividend(-1, 4, 3, 2, 0), 60);
        Check.due("3 then 1 without units", y.dividend(-1, 4, 3, 1, 0), 0);
    }

    private static void doubleVoid() {
        ToteHouse x = doubleHouse();
        finish(x, 2, 2, 1, 3);
        finish(x, 1, 2, 1, 3);
        settled("none", x, 4, 0, 0, 0, 0, 0, 0, 2);
        Check.due("refunded", x.sum(0, 4, 1), 1000);
        Check.due("pay", x.pay(2), 0);
        Check.due("went back", x.count(5), 1000);
        Check.due("dividend", x.dividend(0, 4, 1, 1, 0), 0);
        Check.due("odds", x.odds(0, 4, 1, 1, 0), -1);
    }

    private static void promise12OddsOfOneRace() {
        ToteHouse x = pairHouse();
        Check.due("PAIR", x.odds(1, 2, 1, 2, 3), 60);
        Check.due("PAIR the other way", x.odds(1, 2, 2, 1, 3), 60);
        Check.due("PAIR 4 and 5", x.odds(1, 2, 4, 5, 6), 30);
        Check.due("PAIR without", x.odds(1, 2, 4, 6, 5), 0);
        Check.due("c is looked at", x.odds(1, 2, 1, 2, 0), -1);
        Check.due("c is b", x.odds(1, 2, 1, 2, 2), -1);
        Check.due("c is a", x.odds(1, 2, 1, 2, 1), -1);
        Check.due("b is a", x.odds(1, 2, 1, 1, 2), -1);
        Check.due("a is 0", x.odds(1, 2, 0, 1, 2), -1);
        Check.due("b is 7", x.odds(1, 2, 1, 7, 2), -1);
        Check.due("no such pool", x.odds(1, 0, 1, 2, 3), -1);
        Check.due("no such race", x.odds(2, 2, 1, 2, 3), -1);
        Check.due("no such kind", x.odds(1, 5, 1, 2, 3), -1);
        x.scratch(1, 6);
        Check.due("scratched", x.odds(1, 2, 1, 2, 6), -1);
        x.off(1);
        x.place(1, 1, 4);
        x.place(1, 2, 5);
        Check.due("off, whoever has positions", x.odds(1, 2, 1, 2, 3), 60);
        x.place(1, 3, 3);
        x.official(1);
        Check.due("settled", x.odds(1, 2, 1, 2, 3), -1);
        ToteHouse y = orderHouse();
        Check.due("ORDER", y.odds(1, 3, 1, 2, 3), 10);
        Check.due("ORDER", y.odds(1, 3, 1, 3, 2), 20);
        Check.due("ORDER", y.odds(1, 3, 2, 1, 3), 30);
        Check.due("ORDER without", y.odds(1, 3, 3, 2, 1), 0);
        Check.due("odds change nothing", y.sum(1, 3, 11), 0);
    }

    private static void promise12Place() {
        ToteHouse x = one(8, 1, 0, 10);
        x.sell(1, 1, 1, 0, 0, 1);
        x.sell(1, 1, 3, 0, 0, 1);
        x.sell(1, 1, 4, 0, 0, 7);
        // NET 90; 1, 2, 3: k is 2, 20 back, SHARE 35
        Check.due("three places", x.odds(1, 1, 1, 2, 3), 40);
        Check.due("none on 2", x.odds(1, 1, 2, 1, 3), 0);
        // 1, 2, 5: k is 1, 10 back, SHARE 80
        Check.due("alone", x.odds(1, 1, 1, 2, 5), 90);
        // 1, 3, 4: k is 3, 90 back
        Check.due("no profit", x.odds(1, 1, 1, 3, 4), 10);
        x.scratch(1, 8);
        Check.due("seven: two places", x.odds(1, 1, 1, 2, 3), 90);
        Check.due("seven: two places", x.odds(1, 1, 1, 3, 2), 40);
        x.scratch(1, 7);
        x.scratch(1, 6);
        Check.due("five", x.odds(1, 1, 1, 2, 3), 90);
        x.scratch(1, 5);
        Check.due("four: void", x.odds(1, 1, 1, 2, 3), 0);
    }

    private static void promise12FewRunners() {
        ToteHouse x = new ToteHouse();
        x.race(1, 3);
        for (int kind = 0; kind <= 3; kind++) {
            x.pool(1, kind, 0, 10);
        }
        for (int kind = 0; kind <= 3; kind++) {
            x.sell(1, kind, 1, 2, 3, 4);
        }
        for (int kind = 0; kind <= 3; kind++) {
            Check.due("three run, c is looked at", x.odds(1, kind, 1, 2, 4), -1);
            Check.due("three run", x.odds(1, kind, 1, 2, 3), kind == 1 ? 0 : 10);
        }
        x.scratch(1, 3);
        x.sell(1, 2, 1, 2, 0, 4);
        int[] odds = {10, 0, 10, 0};
        for (int kind = 0; kind <= 3; kind++) {
            Check.due("two run, kind " + kind, x.odds(1, kind, 1, 2, -9), odds[kind]);
            Check.due("two run, c is a", x.odds(1, kind, 1, 2, 1), odds[kind]);
            Check.due("two run, b scratched", x.odds(1, kind, 1, 3, 2), -1);
            Check.due("two run, b is a", x.odds(1, kind, 1, 1, 2), -1);
        }
        x.scratch(1, 2);
        int[] alone = {10, 0, 0, 0};
        for (int kind = 0; kind <= 3; kind++) {
            Check.due("one runs, kind " + kind, x.odds(1, kind, 1, -9, 99), alone[kind]);
            Check.due("one runs, b is a", x.odds(1, kind, 1, 1, 1), alone[kind]);
            Check.due("one runs, a is another", x.odds(1, kind, 2, 1, 3), -1);
        }
        x.scratch(1, 1);
        for (int kind = 0; kind <= 3; kind++) {
            Check.due("none runs, kind " + kind, x.odds(1, kind, 1, 2, 3), -1);
        }
    }

    private static void promise12Double() {
        ToteHouse x = doubleHouse();
        // NET 900
        Check.due("1 then 2", x.odds(99, 4, 1, 2, -1), 450);
        Check.due("1 then 1", x.odds(99, 4, 1, 1, -1), 300);
        Check.due("without", x.odds(99, 4, 2, 1, -1), 0);
        Check.due("a 5", x.odds(99, 4, 5, 1, 1), -1);
        Check.due("b 0", x.odds(99, 4, 1, 0, 1), -1);
        x.scratch(1, 4);
        Check.due("b scratched", x.odds(99, 4, 1, 4, 1), -1);
        Check.due("a of that number", x.odds(99, 4, 4, 1, 1), 0);
        finish(x, 2, 1, 2, 3);
        Check.due("as if 3 had been first", x.odds(99, 4, 3, 2, 1), 180);
        finish(x, 1, 1, 2, 3);
        Check.due("settled", x.odds(99, 4, 1, 2, 1), -1);
        ToteHouse y = new ToteHouse();
        y.race(1, 2);
        Check.due("no double", y.odds(1, 4, 1, 1, 1), -1);
    }

    private static void promise12Carried() {
        ToteHouse x = fourOrders();
        Check.due("its own", x.odds(4, 3, 1, 2, 3), 90);
        finish(x, 3, 1, 2, 3);
        Check.due("with what came in", x.odds(4, 3, 1, 2, 3), 270);
        x.cancel(2);
        Check.due("none on it", x.odds(4, 3, 1, 2, 3), 0);
    }

    private static void promise13Dividend() {
        ToteHouse x = orderHouse();
        Check.due("not settled", x.dividend(1, 3, 1, 2, 3), -1);
        x.scratch(1, 6);
        finish(x, 1, 1, 2, 3);
        Check.due("wins", x.dividend(1, 3, 1, 2, 3), 10);
        Check.due("loses", x.dividend(1, 3, 1, 3, 2), 0);
        Check.due("scratched", x.dividend(1, 3, 1, 2, 6), 0);
        Check.due("no such runner", x.dividend(1, 3, 1, 2, 7), -1);
        Check.due("no such runner", x.dividend(1, 3, 0, 2, 3), -1);
        Check.due("two are one", x.dividend(1, 3, 1, 2, 2), -1);
        Check.due("two are one", x.dividend(1, 3, 1, 1, 2), -1);
        Check.due("no such pool", x.dividend(1, 2, 1, 2, 3), -1);
        Check.due("no such race", x.dividend(5, 3, 1, 2, 3), -1);
        x.pay(0);
        Check.due("when paid", x.dividend(1, 3, 1, 2, 3), 10);
        ToteHouse y = one(4, 0, 0, 100);
        y.sell(1, 0, 1, 0, 0, 1);
        finish(y, 1, 1, 2, 3);
        Check.due("b and c are not looked at", y.dividend(1, 0, 1, -1, 99), 100);
        Check.due("a 5", y.dividend(1, 0, 5, 1, 1), -1);
    }

    private static void promise14Pay() {
        ToteHouse x = one(4, 0, 100, 100);
        x.sell(1, 0, 1, 0, 0, 2);
        x.sell(1, 0, 2, 0, 0, 3);
        x.sell(1, 0, 3, 0, 0, 4);
        x.sell(1, 0, 1, 0, 0, 1);
        x.cancel(3);
        x.scratch(1, 3);
        Check.due("not settled", x.pay(0), -2);
        Check.due("refunded, not settled", x.pay(2), 0);
        Check.due("cancelled, not settled", x.pay(3), -3);
        finish(x, 1, 1, 2, 0, 3);
        Check.due("pay(-1)", x.pay(-1), -3);
        Check.due("pay(4)", x.pay(4), -3);
        Check.due("pay(600)", x.pay(600), -3);
        Check.due("wins", x.pay(0), 2 * 220);
        Check.due("again", x.pay(0), -1);
        Check.due("wins nothing", x.pay(1), 0);
        Check.due("stays sold", x.ticket(1, 6), 0);
        Check.due("refunded", x.pay(2), 0);
        Check.due("stays refunded", x.ticket(2, 6), 2);
        Check.due("cancelled", x.pay(3), -3);
        Check.due("paid once", x.sum(1, 0, 8), 440);
    }

    private static void promise15Sum() {
        ToteHouse x = one(4, 0, 100, 100);
        x.sell(1, 0, 1, 0, 0, 2);
        x.sell(1, 0, 2, 0, 0, 3);
        x.sell(1, 0, 3, 0, 0, 4);
        x.sell(1, 0, 1, 0, 0, 1);
        x.sell(1, 0, 1, 0, 0, 7);
        x.cancel(4);
        x.scratch(1, 3);
        long[] ahead = {1000, 400, 0, 0, 0, 0, 0, 0, 0, 6, 0, 0};
        for (int what = 0; what <= 11; what++) {
            Check.due("ahead: sum(1, 0, " + what + ")", x.sum(1, 0, what), ahead[what]);
        }
        finish(x, 1, 1, 2, 0, 3);
        x.pay(0);
        // S 600, NET 540, 180 a unit
        long[] behind = {1000, 400, 60, 540, 0, 0, 0, 0, 360, 6, 1, 1};
        for (int what = 0; what <= 11; what++) {
            Check.due("behind: sum(1, 0, " + what + ")", x.sum(1, 0, what), behind[what]);
        }
        Check.due("what -1", x.sum(1, 0, -1), -1);
        Check.due("what 12", x.sum(1, 0, 12), -1);
        Check.due("no pool", x.sum(1, 1, 0), -1);
        Check.due("no double", x.sum(1, 4, 0), -1);
        Check.due("no race", x.sum(0, 0, 0), -1);
        Check.due("kind -1", x.sum(1, -1, 0), -1);
        Check.due("kind min", x.sum(1, Integer.MIN_VALUE, 0), -1);
    }

    private static void promise16Unclaimed() {
        ToteHouse x = doubleHouse();
        Check.due("nothing due", x.unclaimed(), 0);
        finish(x, 2, 1, 2, 3);
        finish(x, 1, 1, 1, 3);
        // two SHARES of 450 over 2 and 3 units
        Check.due("due", x.unclaimed(), 440 + 450);
        x.pay(1);
        Check.due("less the paid", x.unclaimed(), 440);
        x.pay(2);
        Check.due("less nothing", x.unclaimed(), 440);
        x.pay(0);
        Check.due("all", x.unclaimed(), 0);
        ToteHouse y = new ToteHouse();
        y.race(1, 4);
        y.race(12, 4);
        y.pool(1, 0, 0, 10);
        y.pool(12, 0, 0, 100);
        y.sell(1, 0, 1, 0, 0, 1);
        y.sell(12, 0, 1, 0, 0, 1);
        finish(y, 1, 1, 2, 3);
        finish(y, 12, 1, 2, 3);
        Check.due("of all races", y.unclaimed(), 110);
        ToteHouse z = orderHouse();
        finish(z, 1, 1, 2, 3);
        Check.due("of an ORDER", z.unclaimed(), 70);
    }

    private static void promise18Close() {
        ToteHouse x = doubleHouse();
        Check.due("open", x.close(), -1);
        finish(x, 2, 1, 2, 3);
        Check.due("one is open", x.close(), -1);
        x.off(1);
        Check.due("one is off", x.close(), -1);
        finish(x, 1, 1, 2, 3);
        Check.due("all official", x.close(), 0);
        Check.due("again", x.close(), 0);
        ToteHouse z = orderHouse();
        z.sell(1, 3, 4, 5, 6, 9);
        z.sell(1, 3, 1, 2, 5, 8);
        z.cancel(4);
        z.scratch(1, 6);
        finish(z, 1, 2, 1, 0, 3);
        Check.due("cancelled, refunded, carried", z.close(), 0);
        ToteHouse y = new ToteHouse();
        y.race(12, 2);
        Check.due("a race without a pool", y.close(), -1);
    }

    /** The greatest stakes: 480 tickets of 1000 units of 1000 cents, 999 thousandths deducted. */
    private static void greatSums() {
        ToteHouse x = one(24, 0, 999, 1000);
        ToteHouse y = one(24, 1, 0, 1000);
        for (int t = 0; t < 480; t++) {
            x.sell(1, 0, 2, 0, 0, 1000);
            y.sell(1, 1, t == 0 ? 1 : 2, 0, 0, t == 0 ? 1 : 1000);
        }
        finish(x, 1, 2, 1, 3);
        settled("great", x, 0, 479520000, 0, 480000, 0, 0, 1, 1);
        Check.due("staked", x.sum(1, 0, 0), 480000000);
        finish(y, 1, 1, 0, 2, 3);
        settled("one unit", y, 1, 0, 479001000, 0, 0, 0, 1, 1);
        Check.due("takes all", y.pay(0), 479001000);
    }
}
