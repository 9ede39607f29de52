/** The edges of Terms 1 and of promises 1 to 5: the card. */
public final class CardEdgesTest {
    /** Races 1 to 4, the DOUBLE of 1 and 2, and a WIN pool of race 4 to sell in. */
    private static final String CARD = """
            race {1..4} 4
            pair 1 2 100 50
            pool 4 0 100 10
            """;

    public static void main(String[] args) {
        terms1Numbers();
        terms1TillTheFirstTicket();
        terms1States();
        promise1NothingTold();
        promise1NothingSold();
        promise2Race();
        promise3Pool();
        promise3PoolTerms();
        promise4Pair();
        promise4PairTerms();
        promise5Substitute();
        Edge.end();
    }

    private static void terms1Numbers() {
        Edge.test("RACES have numbers 1 to 12", """
                race {min,-2147483647,-12,-1,0,13,14,257,65537,max} 8 -> false
                look {min,-1,0,1,12,13,max} 1 -> -2
                race {1..12} 8
                look {1..12} 1 -> 8
                race {min,-1,0,13,max} 8 -> false
                look {min,-1,0,13,max} 1 -> -2
                """);
        Edge.test("2 to 24 RUNNERS", """
                race 1 {min,-24,-2,-1,0,1,25,26,258,65538,max} -> false
                look 1 {0..4} -> -2
                race 1 2
                race 2 3
                race 3 23
                race 4 24
                look {1..4} 1 -> 2 3 23 24
                look {1..4} 2 -> 2 3 23 24
                """);
        Edge.test("RUNNERS, 1, 2, ..", """
                race 1 2
                race 2 24
                look 1 {100..103} -> -2 0 0 -2
                look 2 {100,101,123,124,125} -> -2 0 0 0 -2
                scratch 1 {0,3} -> -1
                scratch 2 {0,25} -> -1
                scratch 1 {1,2} -> 0
                scratch 2 {1,24} -> 0
                """);
        Edge.test("the DOUBLE, at most one in all", """
                race {1..4} 8
                pair 1 2 100 10
                pair {1..4} {1..4} 100 10 -> false
                """);
        Edge.test("the DOUBLE, of two RACES", """
                race {1,2} 8
                pair 1 1 100 10 -> false
                pair 2 2 100 10 -> false
                pair 2 1 100 10
                """);
    }

    private static void terms1TillTheFirstTicket() {
        Edge.test("the CARD is told ahead of the first TICKET, be races off or sales refused", """
                race 1 4
                pool 1 0 100 10
                sell 1 0 1 0 0 1001 -> -2
                sell 1 0 5 0 0 1 -> -4
                sell 2 0 1 0 0 1 -> -1
                off 1
                sell 1 0 1 0 0 1 -> -3
                race {2,3} 4
                pool 2 0 100 10
                pair 2 3 100 10
                substitute {2,3} 1
                """);
        String closed = """
                race 5 4 -> false
                look 5 0 -> -2
                pool 1 0 100 10 -> false
                sum 1 0 0 -> -1
                substitute 1 1 -> false
                look 1 4 -> 0
                """;
        Edge.test("a TICKET that is SOLD shuts the CARD", CARD + "sell 4 0 1 0 0 1\n" + closed);
        Edge.test("one of the DOUBLE shuts it", CARD + "sell 0 4 1 1 0 1\n" + closed);
        Edge.test("one that is CANCELLED leaves it shut", CARD + "sell 4 0 1 0 0 1\ncancel 0\n" + closed);
        Edge.test("one that is REFUNDED leaves it shut", CARD + "sell 4 0 1 0 0 1\nscratch 4 1 -> 1\n" + closed);
        Edge.test("pair() is shut too", """
                race {1..3} 4
                pool 3 0 100 10
                sell 3 0 1 0 0 1
                pair 1 2 100 10 -> false
                sum 0 4 0 -> -1
                cancel 0
                pair 1 2 100 10 -> false
                """);
    }

    private static void terms1States() {
        Edge.test("a RACE is OPEN, then OFF, then OFFICIAL", """
                race 1 2
                look 1 0 -> 0
                official 1 -> -1
                place 1 1 1 -> false
                off 1
                look 1 0 -> 1
                off 1 -> false
                scratch 1 1 -> -1
                place 1 1 1
                place 1 2 2
                official 1 -> 0
                look 1 0 -> 2
                off 1 -> false
                scratch 1 1 -> -1
                place 1 2 1 -> false
                official 1 -> -1
                look 1 0 -> 2
                """);
        Edge.test("a RUNNER is SCRATCHED or RUNS", """
                race 1 3
                look 1 {2,101,102,103} -> 3 0 0 0
                scratch 1 2 -> 0
                look 1 {1,2,101,102,103} -> 3 2 0 -1 0
                scratch 1 2 -> -1
                off 1
                place 1 1 2 -> false
                look 1 {2,102} -> 2 -1
                """);
    }

    private static void promise1NothingTold() {
        Edge.test("no CARD: no race, pool or double to tell more of", """
                pool {0..13} {0..4} 0 10 -> false
                pair {0,1,12} {2,13} 0 10 -> false
                substitute {0,1,12,13} 1 -> false
                """);
        Edge.test("no CARD: nothing to bet on", """
                sell {min,0,1,12,13,max} {-1..5} 1 2 3 1 -> -1
                cancel {min,-1,0,599,600,max} -> false
                pay {min,-1,0,599,600,max} -> -3
                ticket {min,-1,0,599,600,max} {0..6} -> -1
                """);
        Edge.test("no CARD: no race to run", """
                scratch {0..13} 1 -> -1
                off {min,0,1,12,13,max} -> false
                place {0..13} 1 1 -> false
                official {min,0,1,12,13,max} -> -1
                look {min,0,1,12,13,max} {0..4} -> -2
                look {1,12} {100,101,124} -> -2
                """);
        Edge.test("no CARD: nothing to ask for", """
                {odds,dividend,units} {min,0,1,12,13,max} {-1..5} 1 2 3 -> -1
                sum {min,0,1,12,13,max} {-1,0,3,4,5} {0,7,11} -> -1
                count {0..5} -> 0
                unclaimed -> 0
                carried -> 0
                close -> 0
                """);
    }

    private static void promise1NothingSold() {
        Edge.test("a CARD, and nothing sold yet", """
                race {1,2} 3
                pool 1 {0..3} 100 10
                pair 1 2 100 10
                cancel {-1,0,1} -> false
                pay {-1,0,1} -> -3
                ticket {-1,0,1} {0..6} -> -1
                sum 1 {0..3} {0..11} -> 0
                sum 0 4 {0..11} -> 0
                odds 1 {0..3} 1 2 3 -> 0
                odds 0 4 1 1 0 -> 0
                units 1 {0..3} 1 2 3 -> 0
                units 0 4 1 1 0 -> 0
                dividend 1 {0..3} 1 2 3 -> -1
                dividend 0 4 1 1 0 -> -1
                count {0..5} -> 0
                unclaimed -> 0
                carried -> 0
                close -> -1
                scratch 1 3 -> 0
                """);
        Edge.test("nothing was sold at all: VOID, and ORDER SETTLED with nothing", """
                race {1,2} 3
                pool 1 {0..3} 100 10
                pair 1 2 100 10
                finish 1 1 2 3 -> 4
                finish 2 1 2 3 -> 1
                sum 1 {0..3} 11 -> 2 2 2 1
                sum 0 4 11 -> 2
                sum 1 {0..3} {0..10} -> 0
                sum 0 4 {0..10} -> 0
                dividend 1 {0..3} 1 2 3 -> 0
                dividend 0 4 1 1 0 -> 0
                unclaimed -> 0
                carried -> 0
                close -> 0
                """);
    }

    private static void promise2Race() {
        Edge.test("race(): TICKETS were sold", CARD + """
                race 5 4
                sell 4 0 1 0 0 1
                race 6 4 -> false
                look 6 1 -> -2
                """);
        Edge.test("race(): it was told already", """
                race 1 8
                race 1 {2,8,9,24} -> false
                look 1 1 -> 8
                off 1
                race 1 8 -> false
                look 1 0 -> 1
                """);
        Edge.test("race(): two that are wrong at once", """
                race 13 25 -> false
                race min max -> false
                race max min -> false
                race min min -> false
                race max max -> false
                """);
    }

    private static void promise3Pool() {
        Edge.test("pool(): TICKETS were sold", CARD + """
                pool 1 0 100 10
                sell 4 0 1 0 0 1
                pool 1 1 100 10 -> false
                sum 1 {0,1} 0 -> 0 -1
                """);
        Edge.test("pool(): the RACE was not told", """
                race {2,11} 8
                pool {min,-1,0,1,3,10,12,13,258,max} 0 100 10 -> false
                pool {2,11} 0 100 10
                """);
        Edge.test("pool(): the RACE is OFF, or OFFICIAL", """
                race {1,2} 2
                off 1
                pool 1 {0..3} 100 10 -> false
                place 1 1 1
                place 1 2 2
                official 1 -> 0
                pool 1 {0..3} 100 10 -> false
                sum 1 {0..3} 0 -> -1
                pool 2 {0..3} 100 10
                """);
        Edge.test("pool(): another KIND", """
                race 1 8
                pool 1 {min,-2,-1,4,5,256,max} 100 10 -> false
                sum 1 {0..4} 0 -> -1
                pool 1 {0..3} 100 10
                pool 1 {min,-1,4,5,max} 100 10 -> false
                """);
        Edge.test("pool(): it has one", """
                race {1,2} 8
                pool 1 {0..3} 100 10
                pool 1 {0..3} 200 20 -> false
                pool 2 0 200 20
                sell 1 {0..3} 1 2 3 1
                sum 1 {0..3} 0 -> 10
                """);
    }

    private static void promise3PoolTerms() {
        Edge.test("pool(): DEDUCTION 0 to 999", """
                race 1 8
                pool 1 {0..3} {min,-999,-1,1000,1001,65536,max} 10 -> false
                sum 1 {0..3} 0 -> -1
                pool 1 0 0 10
                pool 1 1 1 10
                pool 1 2 998 10
                pool 1 3 999 10
                """);
        Edge.test("pool(): UNIT 10, 20, .. 1000 cents", """
                race 1 8
                pool 1 0 100 {min,-2147483640,-1000,-10,-1,0,1010,1020,65546,2147483640,max} -> false
                pool 1 0 100 {1..9} -> false
                pool 1 0 100 {11,15,19,21,25,99,101,495,989,991,995,999,1001,1005} -> false
                pool 1 0 100 10
                pool 1 1 100 20
                pool 1 2 100 990
                pool 1 3 100 1000
                sell 1 {0..3} 1 2 3 1
                sum 1 {0..3} 0 -> 10 20 990 1000
                """);
        for (int unit = 10; unit <= 1000; unit += 10) {
            Edge.test("each of the UNITS", "race 1 2\npool 1 0 0 " + unit
                    + "\nsell 1 0 1 0 0 1\nsum 1 0 0 -> " + unit);
        }
    }

    private static void promise4Pair() {
        Edge.test("pair(): TICKETS were sold", """
                race {1..3} 4
                pool 3 0 100 10
                sell 3 0 1 0 0 1
                pair 1 2 100 10 -> false
                sum 0 4 0 -> -1
                """);
        Edge.test("pair(): the first was not told", """
                race {1,11} 8
                pair {min,-1,0,2,10,12,13,267,max} 1 100 10 -> false
                pair 11 1 100 10
                """);
        Edge.test("pair(): the second was not told", """
                race {1,11} 8
                pair 1 {min,-1,0,2,10,12,13,267,max} 100 10 -> false
                pair 1 11 100 10
                """);
        Edge.test("pair(): one is OFF, or OFFICIAL", """
                race {1..3} 2
                off 1
                pair 1 2 100 10 -> false
                pair 2 1 100 10 -> false
                place 1 1 1
                place 1 2 2
                official 1 -> 0
                pair 1 2 100 10 -> false
                pair 2 1 100 10 -> false
                sum 0 4 0 -> -1
                pair 2 3 100 10
                """);
        Edge.test("pair(): there is one", """
                race {1..4} 4
                pair 2 1 100 20
                pair 2 1 100 20 -> false
                pair 3 4 200 50 -> false
                sell 0 4 1 1 0 1
                sum 0 4 0 -> 20
                off 2
                sell 0 4 1 1 0 1 -> -3
                """);
        Edge.test("pair(): first and second, in this order", """
                race 1 4
                race 2 6
                pair 2 1 100 20
                sell 0 4 6 4 0 1
                sell 0 4 4 5 0 1 -> -4
                """);
    }

    private static void promise4PairTerms() {
        Edge.test("pair(): DEDUCTION 0 to 999", """
                race {1,2} 8
                pair 1 2 {min,-1,1000,1001,65536,max} 10 -> false
                sum 0 4 0 -> -1
                pair 1 2 999 10
                """);
        Edge.test("pair(): DEDUCTION 0", "race {1,2} 8\npair 1 2 0 10");
        Edge.test("pair(): UNIT 10, 20, .. 1000 cents", """
                race {1,2} 8
                pair 1 2 100 {min,-2147483640,-10,-1,0,1,5,9,11,15,991,995,999,1001,1010,2147483640,max} -> false
                sum 0 4 0 -> -1
                pair 1 2 100 1000
                sell 0 4 1 1 0 1
                sum 0 4 0 -> 1000
                """);
        Edge.test("pair(): UNIT 10", """
                race {1,2} 8
                pair 1 2 100 10
                sell 0 4 1 1 0 1
                sum 0 4 0 -> 10
                """);
    }

    private static void promise5Substitute() {
        Edge.test("substitute(): TICKETS were sold", CARD + """
                substitute 1 2
                sell 4 0 1 0 0 1
                substitute {1,2} {1,3} -> false
                look {1,2} 4 -> 2 0
                """);
        Edge.test("substitute(): there is no DOUBLE", """
                race {1,2} 8
                substitute {1,2} 1 -> false
                look {1,2} 4 -> 0
                """);
        Edge.test("substitute(): it is none of its RACES", CARD + """
                substitute {min,-1,0,3,4,5,12,13,257,max} 1 -> false
                look {3,4} 4 -> 0
                substitute {1,2} 1
                """);
        Edge.test("substitute(): it is OFF, or OFFICIAL", """
                race {1,2} 2
                pair 1 2 100 10
                substitute {1,2} 2
                off 1
                substitute 1 1 -> false
                place 1 1 1
                place 1 2 2
                official 1 -> 0
                substitute 1 1 -> false
                look 1 4 -> 2
                substitute 2 1
                look 2 4 -> 1
                """);
        Edge.test("substitute(): no such RUNNER", CARD + """
                substitute {1,2} {min,-1,0,5,6,24,257,max} -> false
                look {1,2} 4 -> 0
                substitute 1 1
                substitute 2 4
                look {1,2} 4 -> 1 4
                """);
        Edge.test("substitute(): a RUNNER that is SCRATCHED", CARD + """
                scratch {1,2} 3 -> 0
                substitute {1,2} 3 -> false
                look {1,2} 4 -> 0
                substitute {1,2} 4
                """);
        Edge.test("substitute(): in place of one told ahead", CARD + """
                substitute 1 2
                substitute 1 4
                look {1,2} 4 -> 4 0
                sell 0 4 1 1 0 1
                scratch 1 2 -> 0
                scratch 1 1 -> 0
                ticket 0 {2,3,6} -> 4 1 0
                """);
        Edge.test("substitute(): of each of the two RACES", CARD + """
                substitute 1 2
                substitute 2 3
                look {1..4} 4 -> 2 3 0 0
                """);
    }
}
