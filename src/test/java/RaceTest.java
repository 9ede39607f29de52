/** Promises 8 to 11 and 21: scratch, off, place, official, look. */
public final class RaceTest {
    public static void main(String[] args) {
        promise8Scratch();
        promise8Double();
        promise8NoSubstitute();
        promise8OtherLegIsOver();
        promise8LastRunners();
        promise9Off();
        promise10Place();
        promise11Positions();
        promise11Ties();
        promise11FewRunners();
        promise11HowManyPools();
        promise21Look();
        Check.end();
    }

    private static ToteHouse house(int runners) {
        ToteHouse x = new ToteHouse();
        x.race(1, runners);
        x.race(2, runners);
        for (int kind = 0; kind <= 3; kind++) {
            x.pool(1, kind, 0, 100);
        }
        x.pair(1, 2, 0, 100);
        return x;
    }

    private static void promise8Scratch() {
        ToteHouse x = house(6);
        x.sell(1, 0, 2, 0, 0, 1);
        x.sell(1, 0, 3, 0, 0, 1);
        x.sell(1, 1, 2, 0, 0, 2);
        x.sell(1, 2, 1, 2, 0, 3);
        x.sell(1, 2, 2, 3, 0, 4);
        x.sell(1, 3, 1, 2, 3, 5);
        x.sell(1, 3, 3, 1, 2, 6);
        x.sell(1, 3, 1, 3, 4, 7);
        x.sell(1, 0, 2, 0, 0, 8);
        x.cancel(8);
        Check.due("runner 0", x.scratch(1, 0), -1);
        Check.due("runner 7", x.scratch(1, 7), -1);
        Check.due("runner min", x.scratch(1, Integer.MIN_VALUE), -1);
        Check.due("race 3", x.scratch(3, 1), -1);
        Check.due("race 0", x.scratch(0, 1), -1);
        Check.due("scratch(1, 2)", x.scratch(1, 2), 6);
        Check.due("again", x.scratch(1, 2), -1);
        int[] states = {2, 0, 2, 2, 2, 2, 2, 0, 1};
        for (int t = 0; t < states.length; t++) {
            Check.due("ticket(" + t + ", 6)", x.ticket(t, 6), states[t]);
        }
        Check.due("went back", x.count(5), 100 + 200 + 300 + 400 + 500 + 600 + 800);
        Check.due("WIN staked", x.sum(1, 0, 0), 200);
        Check.due("WIN refunded", x.sum(1, 0, 1), 100);
        Check.due("PAIR refunded", x.sum(1, 2, 1), 700);
        Check.due("look", x.look(1, 102), -1);
        Check.due("run", x.look(1, 2), 5);
        Check.due("runners", x.look(1, 1), 6);
        Check.due("nobody's", x.scratch(1, 6), 0);
        x.off(1);
        Check.due("off", x.scratch(1, 1), -1);
        Check.due("of the other race", x.look(2, 2), 6);
    }

    private static void promise8Double() {
        ToteHouse x = house(6);
        x.substitute(1, 5);
        x.substitute(2, 6);
        x.sell(0, 4, 1, 1, 0, 1);
        x.sell(0, 4, 5, 2, 0, 1);
        x.sell(0, 4, 2, 6, 0, 1);
        x.sell(1, 0, 1, 0, 0, 1);
        Check.due("a goes to 5, the WIN goes back", x.scratch(1, 1), 1);
        Check.due("a", x.ticket(0, 2), 5);
        Check.due("b stays", x.ticket(0, 3), 1);
        Check.due("sold", x.ticket(0, 6), 0);
        Check.due("units on 5, 1", x.units(0, 4, 5, 1, 0), 1);
        Check.due("units on 1, 1", x.units(0, 4, 1, 1, 0), 0);
        Check.due("b goes to 6", x.scratch(2, 1), 0);
        Check.due("b", x.ticket(0, 3), 6);
        Check.due("the substitute itself, told and come to", x.scratch(1, 5), 2);
        Check.due("refunded", x.ticket(0, 6), 2);
        Check.due("refunded", x.ticket(1, 6), 2);
        Check.due("as it is now", x.ticket(0, 2), 5);
        Check.due("the substitute is scratched", x.scratch(1, 2), 1);
        Check.due("refunded", x.ticket(2, 6), 2);
        Check.due("DOUBLE refunded", x.sum(0, 4, 1), 300);
    }

    private static void promise8NoSubstitute() {
        ToteHouse x = house(6);
        x.substitute(2, 6);
        x.sell(0, 4, 1, 2, 0, 1);
        x.sell(0, 4, 2, 1, 0, 2);
        x.sell(0, 4, 1, 3, 0, 2);
        x.cancel(2);
        Check.due("none for race 1", x.scratch(1, 1), 1);
        Check.due("refunded", x.ticket(0, 6), 2);
        Check.due("its a", x.ticket(0, 2), 1);
        Check.due("sold", x.ticket(1, 6), 0);
        Check.due("refunded ones stay", x.scratch(2, 2), 0);
        Check.due("its b", x.ticket(0, 3), 2);
        Check.due("cancelled ones stay", x.ticket(2, 6), 1);
    }

    private static void promise8OtherLegIsOver() {
        ToteHouse x = house(6);
        x.substitute(2, 6);
        x.sell(0, 4, 1, 2, 0, 1);
        x.sell(0, 4, 2, 3, 0, 1);
        x.off(1);
        x.place(1, 1, 1);
        x.place(1, 2, 2);
        x.place(1, 3, 3);
        Check.due("four pools, not the double", x.official(1), 4);
        Check.due("moves", x.scratch(2, 2), 0);
        Check.due("b", x.ticket(0, 3), 6);
        Check.due("the substitute", x.scratch(2, 6), 1);
        Check.due("a lost one goes back too", x.scratch(2, 3), 1);
        Check.due("went back", x.count(5), 200);
    }

    private static void promise8LastRunners() {
        ToteHouse x = house(24);
        x.sell(1, 0, 24, 0, 0, 1);
        x.sell(1, 0, 23, 0, 0, 1);
        Check.due("scratch(1, 24)", x.scratch(1, 24), 1);
        Check.due("look", x.look(1, 124), -1);
        Check.due("runner 25", x.scratch(1, 25), -1);
        Check.due("run", x.look(1, 2), 23);
        x.off(1);
        x.off(2);
        Check.due("place(1, 1, 23)", x.place(1, 1, 23), true);
        Check.due("look", x.look(1, 123), 1);
        Check.due("place(2, 24, 24)", x.place(2, 24, 24), true);
        Check.due("look", x.look(2, 124), 24);
        Check.due("a position 24 counts", x.look(2, 3), 1);
        x.place(1, 2, 1);
        x.place(1, 3, 2);
        x.official(1);
        Check.due("dividend", x.dividend(1, 0, 23, 0, 0), 100);
    }

    private static void promise9Off() {
        ToteHouse x = house(6);
        Check.due("off(0)", x.off(0), false);
        Check.due("off(3)", x.off(3), false);
        Check.due("off(13)", x.off(13), false);
        Check.due("off(1)", x.off(1), true);
        Check.due("look", x.look(1, 0), 1);
        Check.due("again", x.off(1), false);
        Check.due("the other", x.look(2, 0), 0);
        x.place(1, 1, 1);
        x.place(1, 2, 2);
        x.place(1, 3, 3);
        x.official(1);
        Check.due("an official one", x.off(1), false);
        Check.due("look", x.look(1, 0), 2);
    }

    private static void promise10Place() {
        ToteHouse x = house(6);
        x.scratch(1, 6);
        Check.due("open", x.place(1, 1, 1), false);
        x.off(1);
        Check.due("race 3", x.place(3, 1, 1), false);
        Check.due("race -1", x.place(-1, 1, 1), false);
        Check.due("runner 0", x.place(1, 1, 0), false);
        Check.due("runner 7", x.place(1, 1, 7), false);
        Check.due("a scratched one", x.place(1, 1, 6), false);
        Check.due("position -1", x.place(1, -1, 1), false);
        Check.due("position 25", x.place(1, 25, 1), false);
        Check.due("nothing by these", x.look(1, 3), 0);
        Check.due("still scratched", x.look(1, 106), -1);
        Check.due("position 24", x.place(1, 24, 1), true);
        Check.due("look", x.look(1, 101), 24);
        Check.due("in its place", x.place(1, 2, 1), true);
        Check.due("look", x.look(1, 101), 2);
        Check.due("one has", x.look(1, 3), 1);
        Check.due("none", x.place(1, 0, 1), true);
        Check.due("look", x.look(1, 101), 0);
        Check.due("none has", x.look(1, 3), 0);
        Check.due("none again", x.place(1, 0, 1), true);
        x.place(1, 1, 1);
        x.place(1, 2, 2);
        x.place(1, 3, 3);
        x.official(1);
        Check.due("official", x.place(1, 4, 4), false);
        Check.due("official", x.place(1, 0, 1), false);
        Check.due("look", x.look(1, 101), 1);
    }

    private static void promise11Positions() {
        ToteHouse x = house(6);
        Check.due("open", x.official(1), -1);
        Check.due("race 3", x.official(3), -1);
        Check.due("race 13", x.official(13), -1);
        x.off(1);
        Check.due("nobody", x.official(1), -1);
        x.place(1, 1, 4);
        x.place(1, 2, 5);
        Check.due("two of six", x.official(1), -1);
        x.place(1, 4, 6);
        Check.due("no third", x.official(1), -1);
        Check.due("off as it was", x.look(1, 0), 1);
        x.place(1, 3, 6);
        x.place(1, 6, 1);
        Check.due("a sixth without a fourth", x.official(1), -1);
        x.place(1, 4, 1);
        Check.due("1 to 4", x.official(1), 4);
        Check.due("again", x.official(1), -1);
        Check.due("official", x.look(1, 0), 2);
    }

    private static int officialWith(int runners, int... positions) {
        ToteHouse x = new ToteHouse();
        x.race(1, runners);
        x.pool(1, 0, 0, 10);
        x.off(1);
        for (int n = 1; n <= positions.length; n++) {
            x.place(1, positions[n - 1], n);
        }
        return x.official(1);
    }

    private static void promise11Ties() {
        Check.due("1 1 3", officialWith(6, 1, 1, 3), 1);
        Check.due("1 1 2", officialWith(6, 1, 1, 2), -1);
        Check.due("1 2 2", officialWith(6, 1, 2, 2), 1);
        Check.due("1 2 2 3", officialWith(6, 1, 2, 2, 3), -1);
        Check.due("1 2 2 4", officialWith(6, 1, 2, 2, 4), 1);
        Check.due("1 1 1", officialWith(6, 1, 1, 1), 1);
        Check.due("1 1 1 1 5", officialWith(6, 1, 1, 1, 1, 5), 1);
        Check.due("1 1 1 1 4", officialWith(6, 1, 1, 1, 1, 4), -1);
        Check.due("2 3 4", officialWith(6, 2, 3, 4), -1);
        Check.due("2 2 2", officialWith(6, 2, 2, 2), -1);
        Check.due("1 3 3", officialWith(6, 1, 3, 3), -1);
        Check.due("1 2 3 3", officialWith(6, 1, 2, 3, 3), 1);
        Check.due("1 1", officialWith(6, 1, 1), -1);
    }

    private static void promise11FewRunners() {
        Check.due("two: 1 2", officialWith(2, 1, 2), 1);
        Check.due("two: 1 1", officialWith(2, 1, 1), 1);
        Check.due("two: 1", officialWith(2, 1), -1);
        Check.due("three: 1 2", officialWith(3, 1, 2), -1);
        ToteHouse x = house(3);
        x.scratch(1, 1);
        x.scratch(1, 2);
        x.off(1);
        Check.due("one runs, without a position", x.official(1), -1);
        x.place(1, 2, 3);
        Check.due("one runs, second", x.official(1), -1);
        x.place(1, 1, 3);
        Check.due("one runs, first", x.official(1), 4);
        ToteHouse y = house(2);
        y.scratch(1, 1);
        y.scratch(1, 2);
        y.off(1);
        Check.due("none runs", y.official(1), 4);
        Check.due("void", y.sum(1, 0, 11), 2);
        Check.due("settled", y.sum(1, 3, 11), 1);
    }

    private static void promise11HowManyPools() {
        ToteHouse x = house(4);
        x.race(3, 3);
        for (int r = 1; r <= 3; r++) {
            x.off(r);
            x.place(r, 1, 1);
            x.place(r, 2, 2);
            x.place(r, 3, 3);
        }
        Check.due("no pool", x.official(3), 0);
        Check.due("second first: no pool of its own, the double waits", x.official(2), 0);
        Check.due("not settled", x.sum(0, 4, 11), 0);
        Check.due("four and the double", x.official(1), 5);
        Check.due("void", x.sum(0, 4, 11), 2);
    }

    private static void promise21Look() {
        ToteHouse x = house(6);
        x.substitute(1, 2);
        x.scratch(1, 3);
        x.off(1);
        x.place(1, 1, 1);
        x.place(1, 1, 6);
        int[] looks = {1, 6, 5, 2, 2};
        for (int what = 0; what < looks.length; what++) {
            Check.due("look(1, " + what + ")", x.look(1, what), looks[what]);
        }
        int[] positions = {1, 0, -1, 0, 0, 1};
        for (int n = 1; n <= 6; n++) {
            Check.due("look(1, 100 + " + n + ")", x.look(1, 100 + n), positions[n - 1]);
        }
        int[] others = {-1, 5, 6, 24, 99, 100, 107, 124, Integer.MIN_VALUE, Integer.MAX_VALUE,
            Integer.MIN_VALUE + 101};
        for (int what : others) {
            Check.due("look(1, " + what + ")", x.look(1, what), -2);
        }
        Check.due("look(3, 0)", x.look(3, 0), -2);
        Check.due("look(0, 0)", x.look(0, 0), -2);
        Check.due("look(13, 101)", x.look(13, 101), -2);
        Check.due("look(2, 4)", x.look(2, 4), 0);
    }
}
