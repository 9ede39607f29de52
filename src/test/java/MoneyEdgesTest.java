/** The edges of Terms 4 and of promises 12 to 18: money. */
public final class MoneyEdgesTest {
    /** Races 1 (6 runners) and 2 (4) with all their pools; the DOUBLE's a is of race 2, its b of race 1. */
    private static final String CARD = """
            race 1 6
            race 2 4
            pool {1,2} {0..3} 100 10
            pair 2 1 100 20
            """;

    /** ORDER pools of races 1, 3 and 4, each with a ticket that loses to 1 2 3: NET 90, 180, 360. */
    private static final String ORDERS = """
            race {1..5} 4
            pool {1,3,4} 3 100 100
            pool 2 0 100 100
            sell 1 3 4 3 2 1
            sell 3 3 4 3 2 2
            sell 4 3 4 3 2 4
            """;

    public static void main(String[] args) {
        terms4Stakes();
        terms4Void();
        terms4VoidKinds();
        terms4Deducted();
        terms4GreatSums();
        terms4WinRoundings();
        terms4TiedRoundings();
        terms4Winners();
        terms4PlaceHouseCost();
        terms4PlaceProfit();
        terms4CarriedOut();
        terms4CarriedPast();
        terms4DaysEnd();
        terms4CarriedInWon();
        promise12Odds();
        promise12NoSuchPool();
        promise12Names();
        promise12AsManyAsRun();
        promise12Place();
        promise12Double();
        promise12Carried();
        promise13Dividend();
        promise13Names();
        promise14Pay();
        promise14Refused();
        promise15Sum();
        promise15NoneOfThem();
        promise16Unclaimed();
        promise17Carried();
        promise18Close();
        Edge.end();
    }

    // ---- terms 4

    private static void terms4Stakes() {
        Edge.test("STAKED is without CANCELLED ones, REFUNDED what REFUNDED ones cost, S the difference", """
                race 1 4
                pool 1 0 100 10
                sell 1 0 1 0 0 5
                sell 1 0 2 0 0 7
                sell 1 0 3 0 0 9
                cancel 0
                sum 1 0 {0,1,9} -> 160 0 16
                scratch 1 2 -> 1
                sum 1 0 {0,1,9} -> 160 70 9
                finish 1 2 0 1 3 -> 1
                # S 90, NET 81, of 9 units
                sum 1 0 {0..11} -> 160 70 9 0 81 0 0 0 0 9 1 1
                """);
        Edge.test("CARRIED IN is of ORDER alone", """
                race {1,2} 4
                pool {1,2} {0..3} 0 10
                pair 1 2 0 10
                sell 1 {0..3} 3 2 1 1
                sell 0 4 3 3 0 1
                finish 1 1 2 4 3 -> 4
                sum 1 {0..3} 6 -> 0 0 0 10
                sum 2 {0..3} 7 -> 0 0 0 10
                sum 0 4 7 -> 0
                """);
    }

    private static void terms4Void() {
        Edge.test("VOID: all SOLD TICKETS are REFUNDED, nothing is DEDUCTED, k is 0", """
                race 1 4
                pool 1 0 100 10
                sell 1 0 2 0 0 {5,7,9}
                cancel 1
                finish 1 1 2 3 -> 1
                sum 1 0 {0..11} -> 140 140 0 0 0 0 0 0 0 0 0 2
                ticket {0..2} 6 -> 2 1 2
                pay {0..2} -> 0 -3 0
                count {1..5} -> 0 1 2 0 210
                """);
        Edge.test("VOID: what has no units but CANCELLED and REFUNDED ones is no WINNER", """
                race 1 4
                pool 1 0 100 10
                sell 1 0 1 0 0 1
                sell 1 0 2 0 0 1
                sell 1 0 3 0 0 1
                cancel 0
                scratch 1 3 -> 1
                finish 1 1 2 0 3 -> 1
                sum 1 0 {0..11} -> 20 20 0 0 0 0 0 0 0 0 0 2
                """);
        Edge.test("VOID: PLACE with n below 5, and units on who came first", """
                race 1 4
                pool 1 1 100 10
                sell 1 1 {1,2,3} 0 0 2
                finish 1 1 2 3 -> 1
                sum 1 1 {0..11} -> 60 60 0 0 0 0 0 0 0 0 0 2
                ticket {0..2} 6 -> 2
                """);
        Edge.test("one unit on a WINNER: not VOID", """
                race 1 4
                pool 1 0 100 10
                sell 1 0 2 0 0 1000
                sell 1 0 1 0 0 1
                finish 1 1 2 3 -> 1
                sum 1 0 {1,10,11} -> 0 1 1
                """);
    }

    private static void terms4VoidKinds() {
        Edge.test("with k 0 each POOL is VOID, but ORDER", """
                race {1,2} 6
                pool 1 {0..3} 100 10
                pair 1 2 100 10
                sell 1 {0..3} 6 5 4 10
                sell 0 4 6 6 0 10
                finish 1 1 2 3 -> 4
                finish 2 1 2 3 -> 1
                sum 1 {0..3} 11 -> 2 2 2 1
                sum 0 4 11 -> 2
                sum 1 {0..3} 1 -> 100 100 100 0
                sum 0 4 1 -> 100
                sum 1 {0..3} 2 -> 0 0 0 10
                sum 0 4 2 -> 0
                sum 1 {0..3} 6 -> 0 0 0 90
                sum 1 {0..3} 10 -> 0
                ticket {0..4} 6 -> 2 2 2 0 2
                pay {0..4} -> 0
                """);
        Edge.test("the DOUBLE is VOID when but one of a TICKET's LEGS came first", """
                race {1,2} 4
                pair 1 2 100 10
                sell 0 4 1 2 0 1
                sell 0 4 2 1 0 1
                finish 1 1 2 3 -> 0
                finish 2 1 2 3 -> 1
                sum 0 4 {1,11} -> 20 2
                """);
    }

    /** DEDUCTED of so many units of 10 cents. */
    private static void deducted(int deduction, int units, int cents) {
        Edge.test("DEDUCTED is S times DEDUCTION / 1000, rounded down", "race 1 2\npool 1 0 " + deduction
                + " 10\nsell 1 0 1 0 0 " + units + "\nfinish 1 1 2 -> 1\nsum 1 0 2 -> " + cents);
    }

    private static void terms4Deducted() {
        deducted(0, 1000, 0);
        deducted(1, 99, 0);
        deducted(1, 100, 1);
        deducted(99, 1, 0);
        deducted(100, 1, 1);
        deducted(199, 1, 1);
        deducted(200, 1, 2);
        deducted(999, 1, 9);
        deducted(999, 99, 989);
        deducted(999, 100, 999);
        deducted(999, 1000, 9990);
    }

    private static void terms4GreatSums() {
        Edge.test("S times DEDUCTION just below what an int holds", """
                race 1 2
                pool 1 0 999 1000
                sell 1 0 1 0 0 {1000,1000,149}
                finish 1 1 2 -> 1
                sum 1 0 2 -> 2146851
                """);
        Edge.test("S times DEDUCTION just above what an int holds", """
                race 1 2
                pool 1 0 999 1000
                sell 1 0 1 0 0 {1000,1000,150}
                finish 1 1 2 -> 1
                sum 1 0 2 -> 2147850
                """);
        Edge.test("the greatest S", """
                race 1 2
                pool 1 0 999 1000
                499* sell 1 0 1 0 0 1000
                finish 1 1 2 -> 1
                # NET 499000, of 499000 units: 1 cent each
                sum 1 0 {0..6} -> 499000000 0 498501000 0 499000 0 0
                """);
        Edge.test("the greatest DIVIDEND", """
                race 1 2
                pool 1 0 0 1000
                495* sell 1 0 2 0 0 1000
                sell 1 0 1 0 0 1
                odds 1 0 1 2 0 -> 495001000
                finish 1 1 2 -> 1
                dividend 1 0 1 0 0 -> 495001000
                pay 495 -> 495001000
                """);
    }

    /** A WIN pool of units of 10 cents; runner 1 wins alone. */
    private static void win(int deduction, int onWinner, int onLoser, int dividend, int breakage) {
        String loser = onLoser > 0 ? "sell 1 0 2 0 0 " + onLoser + "\n" : "";
        Edge.test("DIVIDEND is SHARE / u rounded down to whole tens, BREAKAGE what is left",
                "race 1 2\npool 1 0 " + deduction + " 10\nsell 1 0 1 0 0 " + onWinner + "\n" + loser
                + "odds 1 0 1 2 0 -> " + dividend + "\nfinish 1 1 2 -> 1\ndividend 1 0 1 0 0 -> " + dividend
                + "\nsum 1 0 {3,4,10} -> " + dividend * onWinner + " " + breakage + " 1");
    }

    private static void terms4WinRoundings() {
        // NET 9, 10, 19, 20 of one unit
        win(100, 1, 0, 0, 9);
        win(0, 1, 0, 10, 0);
        win(50, 1, 1, 10, 9);
        win(0, 1, 1, 20, 0);
        // NET 99, 100, 101 of one unit
        win(100, 1, 10, 90, 9);
        win(0, 1, 9, 100, 0);
        win(82, 1, 10, 100, 1);
        // NET 19, 20, 39, 40 of two
        win(50, 2, 0, 0, 19);
        win(0, 2, 0, 10, 0);
        win(25, 2, 2, 10, 19);
        win(0, 2, 2, 20, 0);
        // NET 29, 30 of three
        win(34, 3, 0, 0, 29);
        win(0, 3, 0, 10, 0);
        // NET 1 and 0
        win(999, 1, 0, 0, 1);
        win(999, 1000, 0, 0, 10);
    }

    /** A WIN pool of units of 10 cents; runners 1 and 2 are tied. */
    private static void tied(String units, int deduction, String dividends, String dueAndBreakage) {
        Edge.test("each of the k has a SHARE, NET / k rounded down", "race 1 3\npool 1 0 " + deduction + " 10\n"
                + "sell 1 0 1 0 0 " + units.split(" ")[0] + "\nsell 1 0 2 0 0 " + units.split(" ")[1]
                + "\nsell 1 0 3 0 0 " + units.split(" ")[2] + "\nfinish 1 1 1 3 -> 1\ndividend 1 0 {1,2,3} 0 0 -> "
                + dividends + " 0\nsum 1 0 {3,4,10} -> " + dueAndBreakage + " 2");
    }

    private static void terms4TiedRoundings() {
        // NET 29, 30, 39, 40, 41
        tied("1 1 1", 34, "10 10", "20 9");
        tied("1 1 1", 0, "10 10", "20 10");
        tied("1 1 2", 25, "10 10", "20 19");
        tied("1 1 2", 0, "20 20", "40 0");
        tied("1 1 3", 180, "20 20", "40 1");
        // NET 80: SHARES 40, of one unit and of three; then of five
        tied("1 3 4", 0, "40 10", "70 10");
        tied("5 1 2", 0, "0 40", "40 40");
        // NET 1: SHARES 0
        tied("1 1 1", 999, "0 0", "0 1");
    }

    private static void terms4Winners() {
        Edge.test("WINNERS are those on which there are units", """
                race 1 6
                pool 1 0 0 10
                sell 1 0 1 0 0 1
                sell 1 0 4 0 0 4
                finish 1 1 1 1 4 -> 1
                sum 1 0 {3,4,10} -> 50 0 1
                dividend 1 0 {1,2,3} 0 0 -> 50 0 0
                """);
        Edge.test("u are the units of all TICKETS on it", """
                race 1 3
                pool 1 2 0 10
                sell 1 2 1 2 0 1
                sell 1 2 2 1 0 2
                sell 1 2 1 3 0 3
                finish 1 1 2 3 -> 1
                sum 1 2 {3,4,10} -> 60 0 1
                dividend 1 2 1 2 0 -> 20
                pay {0..2} -> 20 40 0
                """);
        Edge.test("what many TICKETS name is one of the k, in each KIND", """
                race {1,2} 6
                pool 1 {0..3} 0 10
                pair 1 2 0 10
                sell 1 {0..3} 1 2 3 2
                sell 1 {0..3} 1 2 3 1
                sell 0 4 1 1 0 {2,1}
                finish 1 1 2 3 -> 4
                finish 2 1 2 3 -> 1
                sum 1 {0..3} 10 -> 1
                sum 1 {0..3} 3 -> 30
                sum 0 4 {3,10} -> 30 1
                """);
        Edge.test("u are without CANCELLED and REFUNDED ones", """
                race 1 4
                pool 1 3 0 10
                sell 1 3 1 2 3 1
                sell 1 3 1 2 3 5
                sell 1 3 4 2 3 9
                cancel 1
                scratch 1 4 -> 1
                finish 1 1 2 3 -> 1
                sum 1 3 {0,1,3,9,10} -> 100 90 10 1 1
                dividend 1 3 1 2 3 -> 10
                """);
    }

    /** A PLACE pool of units of 20 cents, 5 run: 3 units on the first, 2 on the second (100 back), some on the last. */
    private static void place(String sentence, int deduction, int onLast, String dividends, String sums) {
        String last = onLast > 0 ? "sell 1 1 5 0 0 " + onLast + "\n" : "";
        Edge.test(sentence, "race 1 5\npool 1 1 " + deduction + " 20\nsell 1 1 1 0 0 3\nsell 1 1 2 0 0 2\n" + last
                + "odds 1 1 1 2 3 -> " + dividends.split(" ")[0] + "\nodds 1 1 2 1 3 -> " + dividends.split(" ")[1]
                + "\nfinish 1 1 2 3 -> 1\ndividend 1 1 {1,2,3} 0 0 -> " + dividends + " 0\nsum 1 1 {3,4,5,10} -> "
                + sums + " 2\nclose -> 0");
    }

    private static void terms4PlaceHouseCost() {
        place("PLACE: NET is 1 below the UNITS BACK", 10, 0, "20 20", "100 0 1");
        place("PLACE: NET is far below the UNITS BACK", 999, 0, "20 20", "100 0 99");
        place("PLACE: NET is the UNITS BACK", 9, 0, "20 20", "100 0 0");
        Edge.test("PLACE: one WINNER with units, the UNITS BACK are of all its units", """
                race 1 5
                pool 1 1 500 20
                sell 1 1 1 0 0 {3,4}
                finish 1 1 2 3 -> 1
                # S 140, NET 70
                sum 1 1 {2,3,4,5,10} -> 70 140 0 70 1
                pay {0,1} -> 60 80
                """);
    }

    private static void terms4PlaceProfit() {
        // NET 101: PROFIT 1, SHARES 0
        place("PLACE: NET is 1 above the UNITS BACK", 159, 1, "20 20", "100 1 0");
        // NET 139, 140: PROFIT 39, 40, SHARES 19, 20
        place("PLACE: SHARE / u below ten", 8, 2, "20 20", "100 39 0");
        place("PLACE: SHARE / u of ten", 0, 2, "20 30", "120 20 0");
        // NET 159, 160: PROFIT 59, 60, SHARES 29, 30
        place("PLACE: PROFIT / k rounded down", 7, 3, "20 30", "120 39 0");
        place("PLACE: both SHARES are whole", 0, 3, "30 30", "150 10 0");
        // NET 220: PROFIT 120, SHARES 60
        place("PLACE: nothing is left", 0, 6, "40 50", "220 0 0");
    }

    private static void terms4CarriedOut() {
        Edge.test("ORDER with k 0: CARRIED OUT is NET, and no TICKET is REFUNDED", ORDERS + """
                finish 1 1 2 3 -> 1
                sum 1 3 {0..11} -> 100 0 10 0 0 0 90 0 0 1 0 1
                ticket 0 6 -> 0
                pay 0 -> 0
                """);
        Edge.test("it is CARRIED IN of the least greater number that has an ORDER", ORDERS + """
                finish 1 1 2 3 -> 1
                sum 2 {0,3} 7 -> 0 -1
                sum {3,4} 3 7 -> 90 0
                carried -> 0
                """);
        Edge.test("of a RACE that is OFF, too", ORDERS + """
                off 3
                finish 1 1 2 3 -> 1
                sum {3,4} 3 7 -> 90 0
                """);
        Edge.test("of the very next number", """
                race {1,2} 3
                pool {1,2} 3 0 10
                sell 1 3 3 2 1 1
                finish 1 1 2 3 -> 1
                sum 2 3 7 -> 10
                """);
        Edge.test("of number 12", """
                race {1,12} 3
                pool {1,12} 3 0 10
                sell 1 3 3 2 1 1
                finish 1 1 2 3 -> 1
                sum 12 3 7 -> 10
                carried -> 0
                """);
        Edge.test("CARRIED IN is carried on with what the next one loses, and not DEDUCTED from", ORDERS + """
                finish 1 1 2 3 -> 1
                finish 3 1 2 3 -> 1
                sum 3 3 {0..11} -> 200 0 20 0 0 0 270 90 0 2 0 1
                sum 4 3 7 -> 270
                """);
        Edge.test("it is carried on by an ORDER without TICKETS", """
                race {1..3} 3
                pool {1..3} 3 100 10
                sell 1 3 3 2 1 10
                finish 1 1 2 3 -> 1
                finish 2 1 2 3 -> 1
                sum 2 3 {0..11} -> 0 0 0 0 0 0 90 90 0 0 0 1
                sum 3 3 7 -> 90
                """);
    }

    private static void terms4CarriedPast() {
        Edge.test("past a RACE that is OFFICIAL, and more to what is there", ORDERS + """
                finish 3 1 2 3 -> 1
                sum 4 3 7 -> 180
                finish 1 1 2 3 -> 1
                sum {3,4} 3 7 -> 0 270
                sum {1,3} 3 6 -> 90 180
                carried -> 0
                """);
        Edge.test("never to a lesser number, nor to its own", ORDERS + """
                finish 4 1 2 3 -> 1
                sum {1,3,4} 3 7 -> 0
                carried -> 360
                """);
    }

    private static void terms4DaysEnd() {
        Edge.test("without a later ORDER it comes to the DAY'S END, more to what is there", ORDERS + """
                finish 4 1 2 3 -> 1
                carried -> 360
                finish 3 1 2 3 -> 1
                carried -> 540
                finish 1 1 2 3 -> 1
                carried -> 630
                sum {1,3,4} 3 6 -> 90 180 360
                sum {1,3,4} 3 7 -> 0
                """);
        Edge.test("from number 12", """
                race {11,12} 3
                pool {11,12} 3 0 10
                sell {11,12} 3 3 2 1 1
                finish 11 1 2 3 -> 1
                sum 12 3 7 -> 10
                carried -> 0
                finish 12 1 2 3 -> 1
                sum 12 3 6 -> 20
                carried -> 20
                """);
        Edge.test("nothing comes from an ORDER that was won", """
                race {1,2} 3
                pool {1,2} 3 100 10
                sell 1 3 1 2 3 3
                sell 1 3 3 2 1 4
                finish 1 1 2 3 -> 1
                # NET 63, of 3 units
                sum 1 3 {2,3,4,6} -> 7 60 3 0
                sum 2 3 7 -> 0
                carried -> 0
                """);
    }

    private static void terms4CarriedInWon() {
        Edge.test("NET is with CARRIED IN", """
                race {1,2} 3
                pool {1,2} 3 100 10
                sell 1 3 3 2 1 10
                sell 2 3 1 2 3 10
                finish 1 1 2 3 -> 1
                odds 2 3 1 2 3 -> 10
                finish 2 1 2 3 -> 1
                # NET 90 and 90, of 10 units
                sum 2 3 {0..11} -> 100 0 10 100 80 0 0 90 0 10 1 1
                close -> 0
                """);
    }

    // ---- promises

    private static void promise12Odds() {
        Edge.test("odds(): of each KIND", CARD + """
                sell 1 {0,2,3} 1 2 3 3
                sell 1 {0,2,3} 2 3 1 4
                sell 0 4 1 2 0 3
                sell 0 4 2 1 0 4
                # NET 63, of the DOUBLE 126
                odds 1 {0,2,3} 1 2 3 -> 20
                odds 1 {0,2,3} 2 3 1 -> 10
                odds 1 2 {2,3} {1,2} 4 -> 20 -1 0 10
                odds 0 4 1 2 0 -> 40
                odds 0 4 2 1 0 -> 30
                """);
        Edge.test("odds(): 0 without units on it", CARD + """
                odds 1 {0..3} 1 2 3 -> 0
                odds 0 4 1 2 0 -> 0
                sell 1 {0..3} 1 2 3 1
                sell 0 4 1 2 0 1
                odds 1 {0..3} 4 5 6 -> 0
                odds 1 3 2 1 3 -> 0
                odds 0 4 2 1 0 -> 0
                cancel {0..4}
                odds 1 {0..3} 1 2 3 -> 0
                odds 0 4 1 2 0 -> 0
                """);
        Edge.test("odds(): whatever POSITIONS there are, OPEN or OFF", CARD + """
                sell 1 {0,2,3} 1 2 3 10
                odds 1 {0,2,3} 1 2 3 -> 0
                sell 1 {0,2,3} 6 5 4 10
                odds 1 {0,2,3} 1 2 3 -> 10
                off 1
                odds 1 {0,2,3} 1 2 3 -> 10
                place 1 1 {1,4,5,6}
                odds 1 {0,2,3} 1 2 3 -> 10
                odds 1 {0,2,3} 2 3 1 -> 0
                """);
        Edge.test("odds(): it is SETTLED, or VOID", CARD + """
                sell 1 {0..3} 1 2 3 1
                finish 1 1 2 3 -> 4
                odds 1 {0..3} 1 2 3 -> -1
                odds 2 {0..3} 1 2 3 -> 0
                odds 0 4 1 1 0 -> 0
                finish 2 1 2 3 -> 5
                sum 2 0 11 -> 2
                odds 2 {0..3} 1 2 3 -> -1
                odds 0 4 1 1 0 -> -1
                """);
    }

    private static void promise12NoSuchPool() {
        Edge.test("odds(): no such POOL", CARD + """
                odds {min,-1,0,3,12,13,257,max} {0..3} 1 2 3 -> -1
                odds 1 {min,-1,5,256,max} 1 2 3 -> -1
                """);
        Edge.test("odds(): there is no DOUBLE, or no POOL of the KIND", """
                race {1,2} 4
                pool 1 {0,2} 0 10
                odds 1 {0..4} 1 2 3 -> 0 -1 0 -1 -1
                odds 2 {0..4} 1 2 3 -> -1
                """);
    }

    private static void promise12Names() {
        Edge.test("odds(): no RUNNER, whichever it is", CARD + """
                odds 1 {0..3} {min,-1,0,7,24,max} 2 3 -> -1
                odds 1 {0..3} 2 {min,-1,0,7,24,max} 3 -> -1
                odds 1 {0..3} 2 3 {min,-1,0,7,24,max} -> -1
                odds 1 {0..3} 6 5 4 -> 0
                odds 1 {0..3} 4 6 5 -> 0
                odds 1 {0..3} 5 4 6 -> 0
                """);
        Edge.test("odds(): one is SCRATCHED, whichever it is", CARD + """
                scratch 1 4 -> 0
                odds 1 {0..3} 4 2 3 -> -1
                odds 1 {0..3} 2 4 3 -> -1
                odds 1 {0..3} 2 3 4 -> -1
                odds 1 {0..3} 1 2 3 -> 0
                """);
        Edge.test("odds(): two are one, whichever they are", CARD + """
                odds 1 {0..3} 1 1 2 -> -1
                odds 1 {0..3} 1 2 1 -> -1
                odds 1 {0..3} 2 1 1 -> -1
                odds 1 {0..3} 1 1 1 -> -1
                """);
    }

    private static void promise12AsManyAsRun() {
        String bets = """
                race 1 4
                pool 1 {0..3} 0 10
                sell 1 {0..3} 1 2 3 1
                """;
        Edge.test("odds(): three RUN, c is looked at", bets + """
                scratch 1 4 -> 0
                odds 1 {0..3} 1 2 3 -> 10 0 10 10
                odds 1 {0..3} 1 2 {min,0,1,2,4,5,max} -> -1
                odds 1 {0..3} 1 {min,0,1,4,5,max} 3 -> -1
                """);
        Edge.test("odds(): two RUN, c is not looked at, b is", bets + """
                scratch 1 {3,4} -> 1 0
                odds 1 {0..3} 1 2 3 -> 10 0 10 0
                odds 1 {0,2} 1 2 {min,-1,0,1,2,4,5,max} -> 10
                odds 1 {1,3} 1 2 {min,-1,0,1,2,4,5,max} -> 0
                odds 1 {0..3} 1 {min,-1,0,1,3,4,5,max} 2 -> -1
                odds 1 {0..3} {min,0,3,4,5,max} 2 1 -> -1
                """);
        Edge.test("odds(): one RUNS, a alone is looked at", bets + """
                scratch 1 {2,3,4} -> 2 0 0
                odds 1 {0..3} 1 2 3 -> 10 0 0 0
                odds 1 0 1 {min,-1,0,1,2,5,max} {min,0,1,4,max} -> 10
                odds 1 {1..3} 1 {min,-1,0,1,2,5,max} {min,0,1,4,max} -> 0
                odds 1 {0..3} {min,-1,0,2,4,5,max} 1 1 -> -1
                """);
        Edge.test("odds(): none RUNS", bets + """
                scratch 1 {1..4} -> 4 0 0 0
                odds 1 {0..3} {0,1,4,5} {0,2} {0,3} -> -1
                """);
    }

    private static String placeBets(int runners) {
        return "race 1 " + runners + "\npool 1 1 0 10\nsell 1 1 1 0 0 1\nsell 1 1 3 0 0 1\nsell 1 1 4 0 0 7\n";
    }

    private static void promise12Place() {
        Edge.test("odds(): PLACE, 4 RUN: VOID", placeBets(4) + "odds 1 1 {1,3,4} 2 {1,3,4} -> -1 0 0 0 -1 0 0 0 -1");
        // NET 90: 1 and 2: 10 back, 80 for 1; 1 and 3: 20 back, 35 each; 1 and 4: 80 back, 5 each
        Edge.test("odds(): PLACE, 5 RUN: two places", placeBets(5) + """
                odds 1 1 1 {2,3,4} 5 -> 90 40 10
                odds 1 1 1 2 {3,4,5} -> 90
                odds 1 1 2 1 3 -> 0
                """);
        Edge.test("odds(): PLACE, 7 RUN: two places", placeBets(7) + "odds 1 1 1 2 {3,4,5} -> 90");
        // 1, 3 and 4: 90 back, no PROFIT
        Edge.test("odds(): PLACE, 8 RUN: three places", placeBets(8) + """
                odds 1 1 1 2 {3,4,5} -> 40 10 90
                odds 1 1 1 3 4 -> 10
                odds 1 1 2 1 3 -> 0
                scratch 1 8 -> 0
                odds 1 1 1 2 {3,4,5} -> 90
                """);
        Edge.test("odds(): PLACE, below the UNITS BACK", """
                race 1 5
                pool 1 1 999 50
                sell 1 1 1 0 0 1
                odds 1 1 1 2 3 -> 50
                """);
    }

    private static void promise12Double() {
        String bets = """
                race 1 4
                race 2 6
                pair 1 2 0 10
                sell 0 4 1 2 0 1
                sell 0 4 3 3 0 9
                """;
        Edge.test("odds(): DOUBLE, whatever r and c", bets + """
                odds {min,-1,0,1,13,max} 4 1 2 {min,0,1,2,max} -> 100
                odds 0 4 3 3 3 -> 10
                odds 0 4 2 1 0 -> 0
                """);
        Edge.test("odds(): DOUBLE, no such RUNNERS of its RACES", bets + """
                odds 0 4 {min,-1,0,5,6,max} 2 1 -> -1
                odds 0 4 1 {min,-1,0,7,max} 2 -> -1
                odds 0 4 4 6 0 -> 0
                """);
        Edge.test("odds(): DOUBLE, one is SCRATCHED", bets + """
                scratch 1 4 -> 0
                scratch 2 5 -> 0
                odds 0 4 4 {1,4} 0 -> -1
                odds 0 4 {1,4} 5 0 -> -1
                odds 0 4 {1,3} 4 0 -> 0
                """);
        Edge.test("odds(): DOUBLE, none RUNS in one of its RACES", bets + """
                scratch 1 {1..4} -> 1 0 1 0
                odds 0 4 {0,1,4} {0,1,6} 0 -> -1
                """);
        Edge.test("odds(): DOUBLE, while one RACE is OFFICIAL, whoever was first", bets + """
                finish 1 2 1 3 -> 0
                odds 0 4 1 2 0 -> 100
                off 2
                odds 0 4 1 2 0 -> 100
                place 2 1 1
                place 2 2 2
                place 2 3 3
                official 2 -> 1
                odds 0 4 1 2 0 -> -1
                """);
        Edge.test("odds(): DOUBLE, nobody TIED, whoever was", bets + """
                finish 1 1 3 1 4 -> 0
                odds 0 4 1 2 0 -> 100
                odds 0 4 3 3 0 -> 10
                """);
    }

    private static void promise12Carried() {
        Edge.test("odds(): ORDER with CARRIED IN", ORDERS + """
                odds 3 3 4 3 2 -> 90
                finish 1 1 2 3 -> 1
                odds 3 3 4 3 2 -> 130
                odds 4 3 4 3 2 -> 90
                odds 3 3 1 2 3 -> 0
                """);
    }

    private static void promise13Dividend() {
        Edge.test("dividend(): no such POOL", CARD + """
                finish 1 1 2 3 -> 4
                finish 2 1 2 3 -> 5
                dividend {min,-1,0,3,12,13,257,max} {0..3} 1 2 3 -> -1
                dividend 1 {min,-1,5,256,max} 1 2 3 -> -1
                dividend {min,0,13,max} 4 1 1 0 -> 0
                """);
        Edge.test("dividend(): there is no DOUBLE", """
                race 1 3
                pool 1 0 0 10
                finish 1 1 2 3 -> 1
                dividend 1 {0..4} 1 2 3 -> 0 -1 -1 -1 -1
                """);
        Edge.test("dividend(): it is not SETTLED", CARD + """
                sell 1 {0..3} 1 2 3 1
                dividend 1 {0..3} 1 2 3 -> -1
                off 1
                place 1 1 1
                place 1 2 2
                place 1 3 3
                dividend 1 {0..3} 1 2 3 -> -1
                official 1 -> 4
                dividend 1 {0..3} 1 2 3 -> 0 10 0 0
                dividend 2 {0..3} 1 2 3 -> -1
                dividend 0 4 1 1 0 -> -1
                finish 2 1 2 3 -> 5
                dividend 0 4 1 1 0 -> 0
                """);
        Edge.test("dividend(): 0 if it is none of the k", CARD + """
                sell 1 0 {1,2} 0 0 10
                finish 1 1 3 1 4 -> 4
                # NET 180, of 10 units; 3 is first without units
                dividend 1 0 {1,2,3,6} 0 0 -> 10 0 0 0
                """);
        Edge.test("dividend(): as much before a TICKET is PAID as after", CARD + """
                sell 1 0 1 0 0 1
                sell 1 0 2 0 0 4
                finish 1 1 2 3 -> 4
                dividend 1 0 {1,2,3} 0 0 -> 40 0 0
                pay 0 -> 40
                dividend 1 0 {1,2,3} 0 0 -> 40 0 0
                """);
        Edge.test("dividend(): 0 in a VOID one", CARD + """
                sell 1 0 6 0 0 1
                finish 1 1 2 3 -> 4
                sum 1 0 11 -> 2
                dividend 1 0 {1..6} 0 0 -> 0
                """);
    }

    private static void promise13Names() {
        Edge.test("dividend(): no such RUNNERS", CARD + """
                finish 1 1 2 3 -> 4
                finish 2 1 2 3 -> 5
                dividend 1 {0..3} {min,-1,0,7,max} 2 3 -> -1
                dividend 1 {0..3} 6 2 3 -> 0
                dividend 1 {2,3} 1 {min,-1,0,7,max} 3 -> -1
                dividend 1 {2,3} 1 6 3 -> 0
                dividend 1 3 1 2 {min,-1,0,7,max} -> -1
                dividend 1 3 1 2 6 -> 0
                dividend 0 4 {min,-1,0,5,max} 1 0 -> -1
                dividend 0 4 1 {min,-1,0,7,max} 0 -> -1
                dividend 0 4 4 6 0 -> 0
                """);
        Edge.test("dividend(): what is not named is not looked at", CARD + """
                sell 1 {0..2} 1 2 3 1
                sell 0 4 1 1 0 1
                finish 1 1 2 3 -> 4
                finish 2 1 2 3 -> 5
                # NET 9 and 18; PLACE gives the UNIT back
                dividend 1 0 1 {min,0,1,max} {min,0,1,max} -> 0
                dividend 1 1 1 {min,0,1,max} {min,0,1,max} -> 10
                dividend 1 2 1 2 {min,0,1,2,max} -> 0
                dividend {min,0,3,max} 4 1 1 {min,0,1,max} -> 10
                """);
        Edge.test("dividend(): two are one", CARD + """
                finish 1 1 2 3 -> 4
                finish 2 1 2 3 -> 5
                dividend 1 2 1 1 2 -> -1
                dividend 1 3 1 1 2 -> -1
                dividend 1 3 1 2 1 -> -1
                dividend 1 3 1 2 2 -> -1
                dividend 1 {0,1} 4 4 4 -> 0
                dividend 0 4 4 4 4 -> 0
                """);
        Edge.test("dividend(): a SCRATCHED one can be named", CARD + """
                scratch 1 6 -> 0
                finish 1 1 2 3 -> 4
                dividend 1 {0..3} 6 1 2 -> 0
                dividend 1 {0..3} 1 2 6 -> 0
                """);
    }

    private static void promise14Pay() {
        Edge.test("pay(): units times its DIVIDEND, in each KIND", CARD + """
                sell 1 {0,2,3} 1 2 3 2
                sell 1 {0,2,3} 6 5 4 2
                sell 1 1 2 0 0 2
                sell 0 4 1 1 0 2
                sell 0 4 4 4 0 2
                finish 1 1 2 3 -> 4
                finish 2 1 2 3 -> 5
                # NET 36 of 2 units, PLACE below its UNITS BACK, of the DOUBLE 72
                pay {0..8} -> 20 20 20 0 0 0 20 60 0
                ticket {0..8} 6 -> 3 3 3 0 0 0 3 3 0
                sum 1 {0..3} 8 -> 20
                sum 0 4 8 -> 60
                """);
        Edge.test("pay(): a DIVIDEND of 0 is PAID, too", CARD + """
                sell 1 0 1 0 0 1
                finish 1 1 2 3 -> 4
                pay 0 -> 0
                ticket 0 6 -> 3
                pay 0 -> -1
                """);
        Edge.test("pay(): each TICKET of those on the same", CARD + """
                sell 1 0 1 0 0 {1,2,3}
                sell 1 0 2 0 0 6
                finish 1 1 2 3 -> 4
                # NET 108, of 6 units
                pay {2,0,1} -> 30 10 20
                unclaimed -> 0
                """);
    }

    private static void promise14Refused() {
        Edge.test("pay(): 0, it wins nothing and stays SOLD", CARD + """
                sell 1 0 {1,2} 0 0 1
                finish 1 1 2 3 -> 4
                pay 1 -> 0
                pay 1 -> 0
                ticket 1 6 -> 0
                """);
        Edge.test("pay(): 0, all but the last of what it names won", """
                race {1,2} 6
                pool 1 {2,3} 0 10
                pair 1 2 0 10
                sell 1 {2,3} 1 2 3 1
                sell 0 4 1 1 0 1
                sell 1 2 1 3 0 1
                sell 1 3 1 2 4 1
                sell 0 4 1 2 0 1
                finish 1 1 2 3 4 -> 2
                finish 2 1 2 3 4 -> 1
                sum 1 {2,3} 3 -> 20
                sum 0 4 3 -> 20
                pay {3,4,5} -> 0
                ticket {3,4,5} 6 -> 0
                pay {0,1,2} -> 20
                """);
        Edge.test("pay(): 0, all but the first of what it names won", """
                race {1,2} 6
                pool 1 {2,3} 0 10
                pair 1 2 0 10
                sell 1 {2,3} 1 2 3 1
                sell 0 4 1 1 0 1
                sell 1 2 3 2 0 1
                sell 1 3 4 2 3 1
                sell 0 4 2 1 0 1
                finish 1 1 2 3 4 -> 2
                finish 2 1 2 3 4 -> 1
                pay {3,4,5} -> 0
                ticket {3,4,5} 6 -> 0
                pay {0,1,2} -> 20
                """);
        Edge.test("pay(): 0, it is REFUNDED, SCRATCHED or VOID", CARD + """
                sell 1 0 {1,2} 0 0 1
                scratch 1 1 -> 1
                finish 1 0 4 1 2 3 -> 4
                pay {0,1} -> 0
                ticket {0,1} 6 -> 2
                sum 1 0 8 -> 0
                """);
        Edge.test("pay(): -1, it was PAID", CARD + """
                sell 1 0 1 0 0 1
                sell 1 0 2 0 0 1
                finish 1 1 2 3 -> 4
                pay 0 -> 10
                pay 0 -> -1
                pay 0 -> -1
                sum 1 0 8 -> 10
                """);
        Edge.test("pay(): -2, its POOL is not SETTLED", CARD + """
                sell 1 {0..3} 1 2 3 1
                pay {0..3} -> -2
                off 1
                place 1 1 1
                place 1 2 2
                place 1 3 3
                pay {0..3} -> -2
                official 1 -> 4
                pay {0..3} -> 0 10 0 0
                """);
        Edge.test("pay(): -2, the DOUBLE waits for both RACES", CARD + """
                sell 0 4 1 1 0 1
                finish 1 1 2 3 -> 4
                pay 0 -> -2
                off 2
                pay 0 -> -2
                place 2 1 1
                place 2 2 2
                place 2 3 3
                official 2 -> 5
                pay 0 -> 10
                """);
        Edge.test("pay(): -3, no such TICKET", CARD + """
                pay {min,-1,0,599,600,max} -> -3
                sell 1 0 1 0 0 1
                pay {min,-1,1,599,600,max} -> -3
                finish 1 1 2 3 -> 4
                pay {min,-1,1,599,600,max} -> -3
                """);
        Edge.test("pay(): -3, it is CANCELLED, of who won", CARD + """
                sell 1 0 1 0 0 {1,1}
                cancel 1
                finish 1 1 2 3 -> 4
                pay 1 -> -3
                ticket 1 6 -> 1
                """);
    }

    private static void promise15Sum() {
        Edge.test("sum(): 2 to 6 and 10 are 0 till it is SETTLED, 7 is not", """
                race {1,2} 4
                pool 2 3 100 10
                pool 1 3 0 10
                sell 1 3 4 3 2 9
                sell 2 3 1 2 3 5
                sell 2 3 4 3 2 7
                sell 2 3 1 2 3 8
                cancel 3
                sum 2 3 {0..11} -> 120 0 0 0 0 0 0 0 0 12 0 0
                scratch 2 4 -> 1
                finish 1 1 2 3 -> 1
                sum 2 3 {0..11} -> 120 70 0 0 0 0 0 90 0 5 0 0
                off 2
                place 2 1 1
                place 2 2 2
                place 2 3 3
                sum 2 3 {0..11} -> 120 70 0 0 0 0 0 90 0 5 0 0
                official 2 -> 1
                # S 50, NET 45 and 90, of 5 units
                sum 2 3 {0..11} -> 120 70 5 100 35 0 0 90 0 5 1 1
                pay 1 -> 100
                sum 2 3 {0..11} -> 120 70 5 100 35 0 0 90 100 5 1 1
                """);
        Edge.test("sum(): the DOUBLE's 2 to 6 and 10 are 0 till both are OFFICIAL", CARD + """
                sell 0 4 1 1 0 5
                finish 1 1 2 3 -> 4
                sum 0 4 {0..11} -> 100 0 0 0 0 0 0 0 0 5 0 0
                finish 2 1 2 3 -> 5
                # NET 90, of 5 units
                sum 0 4 {0..11} -> 100 0 10 50 40 0 0 0 0 5 1 1
                """);
        Edge.test("sum(): 9 is of SOLD and PAID TICKETS, 8 what was paid", """
                race 1 4
                pool 1 0 0 10
                sell 1 0 1 0 0 {1,2}
                sell 1 0 2 0 0 4
                sell 1 0 1 0 0 8
                cancel 3
                finish 1 1 2 3 -> 1
                sum 1 0 {8,9} -> 0 7
                # NET 70, of 3 units
                pay 0 -> 20
                sum 1 0 {8,9} -> 20 7
                pay 1 -> 40
                sum 1 0 {8,9} -> 60 7
                pay {1,2,3} -> -1 0 -3
                sum 1 0 {8,9} -> 60 7
                """);
        Edge.test("sum(): of its own POOL alone", CARD + """
                sell 1 0 1 0 0 1
                sell 1 1 1 0 0 2
                sell 2 0 1 0 0 4
                sell 0 4 1 1 0 8
                sum {1,2} {0,1,4} 0 -> 10 20 160 40 0 160
                """);
    }

    private static void promise15NoneOfThem() {
        Edge.test("sum(): another what", CARD + """
                sum {1,2} {0..3} {min,-2,-1,12,13,256,max} -> -1
                sum 0 4 {min,-1,12,max} -> -1
                """);
        Edge.test("sum(): no such POOL", CARD + """
                sum {min,-1,0,3,12,13,257,max} {0..3} {0..11} -> -1
                sum 1 {min,-1,5,256,max} {0..11} -> -1
                """);
        Edge.test("sum(): the DOUBLE, r is not looked at", CARD + """
                sell 0 4 1 1 0 2
                sum {min,-1,0,1,3,12,13,max} 4 0 -> 40
                """);
        Edge.test("sum(): there is no DOUBLE", "race {1,2} 4\npool 1 0 0 10\nsum {0,1} 4 {0..11} -> -1");
    }

    private static void promise16Unclaimed() {
        Edge.test("unclaimed(): nothing while nothing is SETTLED", CARD + """
                sell 1 {0..3} 1 2 3 1
                unclaimed -> 0
                off 1
                unclaimed -> 0
                """);
        Edge.test("unclaimed(): DUE of all POOLS, less what was paid", """
                race {1,12} 6
                pool {1,12} {0..3} 0 10
                pair 1 12 0 10
                sell 1 0 1 0 0 1
                sell 1 1 1 0 0 2
                sell 1 2 1 2 0 4
                sell 1 3 1 2 3 8
                sell 12 0 1 0 0 16
                sell 12 1 1 0 0 32
                sell 12 2 1 2 0 64
                sell 12 3 1 2 3 128
                sell 0 4 1 1 0 256
                finish 1 1 2 3 -> 4
                unclaimed -> 150
                finish 12 1 2 3 -> 5
                unclaimed -> 5110
                pay 0 -> 10
                unclaimed -> 5100
                pay 0 -> -1
                unclaimed -> 5100
                pay 8 -> 2560
                unclaimed -> 2540
                pay {1..7} -> 20 40 80 160 320 640 1280
                unclaimed -> 0
                """);
        Edge.test("unclaimed(): none of what lost, is VOID, broken or carried", """
                race 1 4
                pool 1 {0..3} 100 10
                sell 1 0 1 0 0 1
                sell 1 1 1 0 0 1
                sell 1 2 3 4 0 1
                sell 1 3 3 2 1 1
                finish 1 1 2 3 -> 4
                unclaimed -> 0
                """);
    }

    private static void promise17Carried() {
        Edge.test("carried(): nothing while an ORDER waits, then what came", """
                race {1,2} 3
                pool {1,2} 3 0 10
                sell 1 3 3 2 1 7
                carried -> 0
                finish 1 1 2 3 -> 1
                carried -> 0
                finish 2 1 2 3 -> 1
                carried -> 70
                """);
        Edge.test("carried(): nothing of other KINDS", """
                race 1 6
                pool 1 {0..2} 100 10
                sell 1 {0..2} 6 5 4 1
                finish 1 1 2 3 -> 3
                carried -> 0
                """);
    }

    private static void promise18Close() {
        Edge.test("close(): no RACE was told", "close -> 0");
        Edge.test("close(): a RACE is OPEN, or OFF, or can't be OFFICIAL", """
                race 1 2
                close -> -1
                finish 1 1 -> -1
                close -> -1
                place 1 2 2
                official 1 -> 0
                close -> 0
                """);
        Edge.test("close(): the last RACE alone is not OFFICIAL", """
                race {1,12} 2
                finish 1 1 2 -> 0
                close -> -1
                finish 12 1 2 -> 0
                close -> 0
                """);
        Edge.test("close(): the first RACE alone is not OFFICIAL", """
                race {1,12} 2
                finish 12 1 2 -> 0
                close -> -1
                """);
        Edge.test("close(): all books add up", """
                race {1..3} 6
                pool {1..3} {0..3} 155 10
                pair 1 2 333 70
                substitute 1 6
                sell {1..3} {0..3} 1 2 3 7
                sell {1..3} {0..3} 2 1 3 5
                sell {1..3} {0..3} 5 4 6 3
                sell 0 4 {1,5} {1,2} 0 3
                cancel {0,13,30,36}
                # four of its own POOLS; the LEGS of two of the DOUBLE go to 6
                scratch 1 5 -> 4
                finish 1 1 1 3 4 -> 4
                finish 3 2 1 3 -> 4
                close -> -1
                # VOID: the PAIR of race 2, with two TICKETS; its ORDER goes to the DAY'S END
                finish 2 3 1 2 -> 5
                close -> 0
                count {1..4} -> 30 4 6 0
                """);
    }
}
