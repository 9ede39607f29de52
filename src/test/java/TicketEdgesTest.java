/** The edges of Terms 2 and of promises 6 to 8, 19, 20 and 22: tickets, and what a scratched runner does to them. */
public final class TicketEdgesTest {
    /** Races 1 (6 runners) and 2 (4) with all their pools; the DOUBLE's a is of race 2, its b of race 1. */
    private static final String CARD = """
            race 1 6
            race 2 4
            race 3 4
            pool {1,2} {0..3} 100 10
            pair 2 1 100 20
            """;

    public static void main(String[] args) {
        terms2Numbers();
        terms2Names();
        terms2States();
        terms2Scratched();
        terms2Legs();
        terms2LegsThatStay();
        promise6Pools();
        promise6Units();
        promise6States();
        promise6Runners();
        promise6NoneRuns();
        promise6FirstOfTwo();
        promise6SixHundred();
        promise7Cancel();
        promise7CancelDouble();
        promise8Scratch();
        promise19Ticket();
        promise20Units();
        promise20NoneOfThem();
        promise22Count();
        Edge.end();
    }

    private static void terms2Numbers() {
        Edge.test("TICKETS are numbered from 0 on, as they are sold", CARD + """
                sell 1 0 1 0 0 1 -> 0
                sell 2 3 1 2 3 1 -> 1
                sell 0 4 1 1 0 1 -> 2
                sell 1 0 7 0 0 1 -> -4
                sell 1 0 1 0 0 1 -> 3
                cancel 3
                sell 1 0 1 0 0 1 -> 4
                scratch 1 1 -> 3
                sell 1 0 2 0 0 1 -> 5
                """);
        Edge.test("of 1 to 1000 units", CARD + """
                sell {1,2} {0..3} 1 2 3 {min,-1000,-1,0,1001,1002,65537,max} -> -2
                sell 0 4 1 2 0 {min,-1,0,1001,max} -> -2
                count 0 -> 0
                sell 1 {0..3} 1 2 3 1
                sell 2 {0..3} 1 2 3 1000
                sell 0 4 1 2 0 1000
                sell 0 4 1 2 0 1
                sell 1 0 1 0 0 {2,999}
                sum 1 {0..3} 9 -> 1002 1 1 1
                sum 2 {0..3} 9 -> 1000
                sum 0 4 9 -> 1001
                """);
        Edge.test("a TICKET costs units times UNIT", """
                race {1,2} 3
                pool 1 0 0 10
                pool 2 0 0 1000
                sell 1 0 1 0 0 1
                sum 1 0 0 -> 10
                sell 1 0 1 0 0 1000
                sum 1 0 0 -> 10010
                sell 2 0 1 0 0 1
                sum 2 0 0 -> 1000
                sell 2 0 1 0 0 1000
                sum 2 0 0 -> 1001000
                cancel 3
                count 5 -> 1000000
                """);
    }

    private static void terms2Names() {
        Edge.test("WIN and PLACE name a, whatever b and c", CARD + """
                sell 1 0 6 min max 3 -> 0
                sell 1 1 1 max min 4 -> 1
                sell 1 {0,1} 2 2 2 1
                ticket 0 {0..6} -> 1 0 6 0 0 3 0
                ticket 1 {0..6} -> 1 1 1 0 0 4 0
                units 1 0 6 1 2 -> 3
                units 1 1 1 6 6 -> 4
                """);
        Edge.test("PAIR names two, in any order, whatever c", CARD + """
                sell 1 2 6 1 min 3 -> 0
                sell 1 2 1 6 max 4 -> 1
                sell 1 2 1 2 1 1 -> 2
                ticket 0 {0..6} -> 1 2 6 1 0 3 0
                ticket 1 {0..6} -> 1 2 1 6 0 4 0
                units 1 2 1 6 0 -> 7
                units 1 2 6 1 0 -> 7
                """);
        Edge.test("ORDER names three, in this order", CARD + """
                sell 1 3 6 1 2 3 -> 0
                ticket 0 {0..6} -> 1 3 6 1 2 3 0
                units 1 3 6 1 2 -> 3
                units 1 3 6 2 1 -> 0
                units 1 3 1 {6,2} {2,6} -> 0 -1 -1 0
                units 1 3 2 {6,1} {1,6} -> 0 -1 -1 0
                """);
        Edge.test("the DOUBLE names a of its first RACE and b of its second, whatever r and c", CARD + """
                sell min 4 4 6 min 1 -> 0
                sell max 4 4 6 max 2 -> 1
                sell 3 4 1 1 1 3 -> 2
                sell {0,1,2,13} 4 5 1 0 1 -> -4
                sell {0,1,2,13} 4 1 7 0 1 -> -4
                ticket 0 {0..6} -> 0 4 4 6 0 1 0
                ticket 2 {0..6} -> 0 4 1 1 0 3 0
                units min 4 4 6 0 -> 3
                units 1 4 1 4 0 -> 0
                """);
    }

    private static void terms2States() {
        Edge.test("a TICKET is SOLD 0, CANCELLED 1, REFUNDED 2, PAID 3", CARD + """
                sell 1 0 {1,2,3,4} 0 0 1
                ticket {0..3} 6 -> 0
                cancel 1
                scratch 1 3 -> 1
                finish 1 1 2 0 3 -> 4
                pay 0 -> 10
                ticket {0..3} 6 -> 3 1 2 0
                """);
    }

    private static void terms2Scratched() {
        Edge.test("each TICKET that names the SCRATCHED one is REFUNDED, wherever it names it", CARD + """
                sell 1 0 4 0 0 1
                sell 1 1 4 0 0 1
                sell 1 2 4 1 0 1
                sell 1 2 1 4 0 1
                sell 1 3 4 1 2 1
                sell 1 3 1 4 2 1
                sell 1 3 1 2 4 1
                scratch 1 4 -> 7
                ticket {0..6} 6 -> 2
                sum 1 {0..3} 1 -> 10 10 20 30
                count 5 -> 70
                """);
        Edge.test("none that doesn't name it, nor one of another RACE", CARD + """
                sell 1 0 3 4 4 1
                sell 1 1 3 4 4 1
                sell 1 2 1 3 4 1
                sell 1 3 1 2 3 1
                sell 2 {0,1} 4 0 0 1
                sell 2 2 4 1 0 1
                sell 2 3 4 1 2 1
                sell 0 4 4 1 0 1
                scratch 1 4 -> 0
                ticket {0..8} 6 -> 0
                count {1,3,5} -> 9 0 0
                """);
        Edge.test("no TICKET that is not SOLD", CARD + """
                sell 1 2 1 2 0 1
                sell 1 2 1 2 0 1
                cancel 0
                scratch 1 1 -> 1
                ticket {0,1} 6 -> 1 2
                scratch 1 2 -> 0
                ticket {0,1} 6 -> 1 2
                sum 1 2 {0,1} -> 10 10
                count {1..5} -> 0 1 1 0 20
                """);
        Edge.test("the first and the last RUNNER", """
                race 1 24
                pool 1 0 0 10
                sell 1 0 {1,24,2,23} 0 0 1
                scratch 1 {1,24} -> 1
                ticket {0..3} 6 -> 2 2 0 0
                """);
        Edge.test("money of a REFUNDED TICKET goes back at once", CARD + """
                sell 1 0 {1,2} 0 0 7
                count 5 -> 0
                scratch 1 1 -> 1
                count 5 -> 70
                sum 1 0 {0,1,9} -> 140 70 7
                """);
    }

    private static void terms2Legs() {
        Edge.test("a LEG of the second RACE goes to its SUBSTITUTE", CARD + """
                substitute 1 6
                sell 0 4 1 2 0 1
                scratch 1 2 -> 0
                ticket 0 {2,3,6} -> 1 6 0
                count {1,3,5} -> 1 0 0
                units 0 4 1 {2,6} 0 -> 0 1
                """);
        Edge.test("a LEG of the first RACE goes to its SUBSTITUTE", CARD + """
                substitute 2 4
                sell 0 4 1 2 0 1
                scratch 2 1 -> 0
                ticket 0 {2,3,6} -> 4 2 0
                units 0 4 {1,4} 2 0 -> 0 1
                """);
        Edge.test("a LEG of the same number in the other RACE stays", CARD + """
                substitute 1 6
                substitute 2 4
                sell 0 4 1 1 0 1
                scratch 1 1 -> 0
                ticket 0 {2,3,6} -> 1 6 0
                sell 0 4 2 2 0 1
                scratch 2 2 -> 0
                ticket 1 {2,3,6} -> 4 2 0
                scratch 2 1 -> 0
                ticket 0 {2,3,6} -> 4 6 0
                """);
        Edge.test("each LEG that names it, and only such", CARD + """
                substitute 1 6
                sell 0 4 {1,2,3} {1,2,3} 0 1
                scratch 1 2 -> 0
                ticket {0..8} 3 -> 1 6 3 1 6 3 1 6 3
                ticket {0..8} 2 -> 1 1 1 2 2 2 3 3 3
                ticket {0..8} 6 -> 0
                """);
        Edge.test("TICKETS that come to the same names count together", CARD + """
                substitute 1 6
                sell 0 4 1 2 0 3
                sell 0 4 1 6 0 4
                scratch 1 2 -> 0
                units 0 4 1 6 0 -> 7
                finish 1 2 0 3 4 5 1 -> 4
                finish 2 1 2 3 -> 5
                sum 0 4 10 -> 1
                pay {0,1} -> 30 40
                """);
    }

    private static void terms2LegsThatStay() {
        Edge.test("without a SUBSTITUTE the TICKET is REFUNDED", CARD + """
                substitute 2 4
                sell 0 4 1 2 0 3
                scratch 1 2 -> 1
                ticket 0 {2,3,6} -> 1 2 2
                sum 0 4 {0,1,9} -> 60 60 0
                count 5 -> 60
                """);
        Edge.test("without one in the first RACE it is REFUNDED", CARD + """
                substitute 1 4
                sell 0 4 1 2 0 3
                scratch 2 1 -> 1
                ticket 0 {2,3,6} -> 1 2 2
                """);
        Edge.test("with a SUBSTITUTE that is SCRATCHED it is REFUNDED", CARD + """
                substitute 1 6
                sell 0 4 1 2 0 3
                scratch 1 6 -> 0
                scratch 1 2 -> 1
                ticket 0 {2,3,6} -> 1 2 2
                """);
        Edge.test("when the SUBSTITUTE itself is SCRATCHED it is REFUNDED", CARD + """
                substitute {1,2} 3
                sell 0 4 1 3 0 3
                sell 0 4 3 1 0 3
                scratch 1 3 -> 1
                ticket 0 {2,3,6} -> 1 3 2
                scratch 2 3 -> 1
                ticket 1 {2,3,6} -> 3 1 2
                """);
        Edge.test("a LEG that has come to the SUBSTITUTE goes on being one that names it", CARD + """
                substitute {1,2} 3
                sell 0 4 1 2 0 3
                scratch 1 2 -> 0
                scratch 2 1 -> 0
                ticket 0 {2,3,6} -> 3 3 0
                scratch 1 3 -> 1
                ticket 0 {2,3,6} -> 3 3 2
                scratch 2 3 -> 0
                """);
        Edge.test("no LEG of a TICKET that is not SOLD goes anywhere", CARD + """
                substitute 1 6
                sell 0 4 1 2 0 1
                sell 0 4 2 2 0 1
                cancel 0
                scratch 2 2 -> 1
                scratch 1 2 -> 0
                ticket {0,1} 3 -> 2
                ticket {0,1} 6 -> 1 2
                """);
        Edge.test("a SUBSTITUTE is the DOUBLE's alone", CARD + """
                substitute 1 6
                sell 1 {0..3} 2 1 3 1
                scratch 1 2 -> 4
                ticket {0..3} 2 -> 2
                ticket {0..3} 6 -> 2
                """);
        Edge.test("a LEG goes over also when the other RACE is OFFICIAL", CARD + """
                substitute 1 6
                sell 0 4 {1,4} 2 0 1
                finish 2 1 2 3 -> 4
                scratch 1 2 -> 0
                ticket {0,1} 3 -> 6
                scratch 1 6 -> 2
                ticket {0,1} 6 -> 2
                """);
    }

    private static void promise6Pools() {
        Edge.test("sell() -1: no such RACE", CARD + """
                sell {min,-1,0,4,11,12,13,257,max} {0..3} 1 2 3 1 -> -1
                """);
        Edge.test("sell() -1: the RACE has no such POOL", CARD + """
                sell 3 {0..3} 1 2 3 1 -> -1
                """);
        Edge.test("sell() -1: no such KIND", CARD + """
                sell 1 {min,-2,-1,5,6,256,max} 1 2 3 1 -> -1
                """);
        Edge.test("sell() -1: there is no DOUBLE", """
                race {1,2} 4
                pool {1,2} {0..3} 100 10
                sell {0,1,2} 4 1 1 0 1 -> -1
                sell 1 {0..3} 1 2 3 1
                """);
    }

    private static void promise6Units() {
        Edge.test("sell() -2: units below 1", CARD + "sell 1 0 1 0 0 {min,-1,0} -> -2\nsell 1 0 1 0 0 1 -> 0");
        Edge.test("sell() -2: units above 1000", CARD + "sell 1 0 1 0 0 {max,1001} -> -2\nsell 1 0 1 0 0 1000 -> 0");
    }

    private static void promise6States() {
        Edge.test("sell() -3: the RACE is OFF, or OFFICIAL", CARD + """
                off 1
                sell 1 {0..3} 1 2 3 1 -> -3
                finish 2 1 2 3 -> 4
                sell 2 {0..3} 1 2 3 1 -> -3
                count 0 -> 0
                """);
        Edge.test("sell() -3: the DOUBLE's first RACE is not OPEN", CARD + """
                off 2
                sell 0 4 1 1 0 1 -> -3
                sell 1 0 1 0 0 1
                """);
        Edge.test("sell() -3: the DOUBLE's second RACE is not OPEN", CARD + """
                off 1
                sell 0 4 1 1 0 1 -> -3
                sell 2 0 1 0 0 1
                """);
        Edge.test("sell(): a RACE that is none of the DOUBLE's may be OFF", CARD + """
                off 3
                sell 3 4 1 1 0 1 -> 0
                """);
    }

    private static void promise6NoneRuns() {
        Edge.test("sell(): none RUNS", CARD + """
                scratch 2 {1..4} -> 0
                sell 2 {0,1} {1..4} 0 0 1 -> -5
                sell 2 {2,3} {1,2} {1,2} 3 1 -> -5
                sell 2 {0..3} 0 1 2 1 -> -4
                sell 0 4 {1..4} 1 0 1 -> -5
                sell 1 {0..3} 1 2 3 1
                substitute 2 {1..4} -> false
                """);
    }

    private static void promise6Runners() {
        Edge.test("sell() -4: no such RUNNER a", CARD + """
                sell 1 {0..3} {min,-1,0,7,24,257,max} 2 3 1 -> -4
                sell 0 4 {min,-1,0,5,6,max} 2 0 1 -> -4
                sell 1 {0..3} 6 2 3 1
                sell 2 {0..3} 4 2 3 1
                sell 0 4 4 2 0 1
                """);
        Edge.test("sell() -4: no such RUNNER b", CARD + """
                sell 1 {2,3} 1 {min,-1,0,7,24,257,max} 3 1 -> -4
                sell 0 4 1 {min,-1,0,7,max} 0 1 -> -4
                sell 1 {2,3} 1 6 3 1
                sell 0 4 1 6 0 1
                """);
        Edge.test("sell() -4: no such RUNNER c", CARD + """
                sell 1 3 1 2 {min,-1,0,7,24,257,max} 1 -> -4
                sell 1 3 1 2 6 1
                """);
        Edge.test("sell() -5: one is SCRATCHED", CARD + """
                scratch {1,2} 4 -> 0
                sell 1 {0..3} 4 2 3 1 -> -5
                sell 1 {2,3} 2 4 3 1 -> -5
                sell 1 3 2 3 4 1 -> -5
                sell 0 4 {4,1} 4 0 1 -> -5
                sell 0 4 4 1 0 1 -> -5
                sell 1 {0,1,2} 1 2 4 1
                sell 1 {0,1} 1 4 4 1
                sell 0 4 1 1 4 1
                """);
        Edge.test("sell() -6: two are one", CARD + """
                sell 1 2 1 1 2 1 -> -6
                sell 1 3 1 1 2 1 -> -6
                sell 1 3 1 2 1 1 -> -6
                sell 1 3 2 1 1 1 -> -6
                sell 1 3 1 1 1 1 -> -6
                sell 1 {0,1} 1 1 1 1
                sell 1 2 1 2 2 1
                """);
        Edge.test("sell() -6: not of the DOUBLE", CARD + "sell 0 4 {1,4} {1,4} 1 1 -> 0 1 2 3");
    }

    /** Each pair of reasons that can hold at once; those with -7 stand in promise6SixHundred(). */
    private static void promise6FirstOfTwo() {
        Edge.test("sell(): -1 ahead of all others", CARD + """
                sell 3 0 1 0 0 {0,1001} -> -1
                sell 3 0 {0,5} 0 0 1 -> -1
                sell 3 2 1 1 0 1 -> -1
                scratch 3 1 -> 0
                sell 3 0 1 0 0 1 -> -1
                off 3
                sell 3 0 2 0 0 1 -> -1
                sell 3 2 1 1 9 0 -> -1
                """);
        Edge.test("sell(): -2 ahead of -3 to -6", CARD + """
                sell 1 0 7 0 0 0 -> -2
                sell 1 2 1 1 0 1001 -> -2
                scratch 1 1 -> 0
                sell 1 0 1 0 0 0 -> -2
                off 1
                sell 1 0 2 0 0 1001 -> -2
                sell 0 4 1 2 0 0 -> -2
                """);
        Edge.test("sell(): -3 ahead of -4 to -6", CARD + """
                scratch 1 1 -> 0
                off 1
                sell 1 0 7 0 0 1 -> -3
                sell 1 0 1 0 0 1 -> -3
                sell 1 2 2 2 0 1 -> -3
                sell 0 4 5 1 0 1 -> -3
                """);
        Edge.test("sell(): -4 ahead of -5 and -6, whichever is named first", CARD + """
                scratch {1,2} 1 -> 0
                sell 1 2 1 7 0 1 -> -4
                sell 1 2 7 1 0 1 -> -4
                sell 1 3 1 2 7 1 -> -4
                sell 1 3 2 2 7 1 -> -4
                sell 1 3 7 7 2 1 -> -4
                sell 0 4 1 7 0 1 -> -4
                sell 0 4 5 1 0 1 -> -4
                """);
        Edge.test("sell(): -5 ahead of -6", CARD + """
                scratch 1 1 -> 0
                sell 1 2 1 1 0 1 -> -5
                sell 1 3 2 2 1 1 -> -5
                sell 1 3 1 2 2 1 -> -5
                sell 1 3 1 1 1 1 -> -5
                """);
    }

    /** The last tickets come behind the 512 calls that are promised: no fewer calls sell so many. */
    private static void promise6SixHundred() {
        Edge.test("as many TICKETS as 512 calls can sell", """
                race 1 2
                pool 1 0 0 1000
                509* sell 1 0 1 0 0 1000
                sell 1 0 1 0 0 1000 -> 509
                """);
        Edge.test("600 at most, and -7 behind all other reasons", """
                race 1 4
                pool 1 0 0 10
                pool 1 2 0 10
                599* sell 1 0 1 0 0 1
                cancel 0
                sell 1 0 1 0 0 1 -> 599
                sell 1 {0,2} 1 2 0 1 -> -7
                sell 1 1 1 0 0 1 -> -1
                sell 1 0 1 0 0 0 -> -2
                sell 1 0 5 0 0 1 -> -4
                sell 1 2 1 1 0 1 -> -6
                cancel 599
                sell 1 0 1 0 0 1 -> -7
                scratch 1 3 -> 0
                sell 1 0 3 0 0 1 -> -5
                off 1
                sell 1 0 1 0 0 1 -> -3
                count {0,1,2} -> 600 598 2
                """);
    }

    private static void promise7Cancel() {
        Edge.test("cancel(): no such TICKET", CARD + """
                cancel {min,-1,0,599,600,max} -> false
                sell 1 0 1 0 0 {3,4}
                cancel {min,-1,2,599,600,max} -> false
                cancel {0,1}
                count {1,2} -> 0 2
                """);
        Edge.test("cancel(): its money goes back", CARD + """
                sell 1 0 1 0 0 {3,4}
                cancel 0
                count 5 -> 30
                sum 1 0 {0,1,9} -> 40 0 4
                units 1 0 1 0 0 -> 4
                """);
        Edge.test("cancel(): it is CANCELLED", CARD + """
                sell 1 0 1 0 0 3
                cancel 0
                cancel 0 -> false
                count 5 -> 30
                """);
        Edge.test("cancel(): it is REFUNDED, and its RACE OPEN", CARD + """
                sell 1 0 1 0 0 3
                scratch 1 1 -> 1
                cancel 0 -> false
                ticket 0 6 -> 2
                count {2,3,5} -> 0 1 30
                """);
        Edge.test("cancel(): the RACE is OFF, or OFFICIAL; it is PAID", CARD + """
                sell 1 {0..3} 1 2 3 10
                sell 2 0 {1,2} 0 0 10
                sell 3 4 1 1 0 10
                off 1
                cancel {0..3} -> false
                finish 2 1 2 3 -> 4
                cancel {4,5} -> false
                pay 4 -> 100
                cancel {4,5} -> false
                ticket {0..6} 6 -> 0 0 0 0 3 0 0
                count 5 -> 0
                """);
    }

    private static void promise7CancelDouble() {
        Edge.test("cancel(): both RACES of the DOUBLE are OPEN", CARD + """
                off 3
                sell 0 4 1 1 0 3
                cancel 0
                count 5 -> 60
                """);
        Edge.test("cancel(): the DOUBLE's first RACE is OFF", CARD + """
                sell 0 4 1 1 0 3
                off 2
                cancel 0 -> false
                """);
        Edge.test("cancel(): the DOUBLE's second RACE is OFF", CARD + """
                sell 0 4 1 1 0 3
                off 1
                cancel 0 -> false
                finish 2 1 2 3 -> 4
                cancel 0 -> false
                """);
    }

    private static void promise8Scratch() {
        Edge.test("scratch(): no such RACE", CARD + """
                scratch {min,-1,0,4,12,13,257,max} 1 -> -1
                """);
        Edge.test("scratch(): no such RUNNER", CARD + """
                scratch 1 {min,-1,0,7,8,24,25,257,max} -> -1
                scratch 2 {min,0,5,max} -> -1
                look {1,2} 2 -> 6 4
                scratch 1 {1,6} -> 0
                look 1 2 -> 4
                """);
        Edge.test("scratch(): it is SCRATCHED", CARD + """
                sell 1 0 1 0 0 1
                scratch 1 1 -> 1
                scratch 1 1 -> -1
                look 1 2 -> 5
                """);
        Edge.test("scratch(): the RACE is OFF, or OFFICIAL", CARD + """
                sell {1,2} 0 4 0 0 1
                off 1
                scratch 1 {1,4} -> -1
                look 1 {2,101,104} -> 6 0 0
                finish 2 1 2 3 -> 4
                scratch 2 {1,4} -> -1
                look 2 {2,101,104} -> 4 1 0
                ticket 0 6 -> 0
                """);
        Edge.test("scratch(): all that RUN, one behind the other", CARD + """
                sell 2 {0,1} {1,2,3,4} 0 0 1
                scratch 2 {1..4} -> 2
                look 2 2 -> 0
                scratch 2 {1..4} -> -1
                count 5 -> 80
                """);
        Edge.test("scratch(): how many, of the RACE's POOLS and of the DOUBLE", CARD + """
                sell 1 {0..3} 1 2 3 1
                sell 0 4 2 1 0 1
                sell 0 4 1 2 0 1
                sell 2 0 1 0 0 1
                scratch 1 1 -> 5
                ticket {0..6} 6 -> 2 2 2 2 2 0 0
                """);
    }

    private static void promise19Ticket() {
        Edge.test("ticket(): no such TICKET", CARD + """
                ticket {min,-1,0,599,600,max} {0..6} -> -1
                sell 1 0 3 0 0 8
                ticket {min,-1,1,599,600,max} {0..6} -> -1
                ticket 0 {0..6} -> 1 0 3 0 0 8 0
                """);
        Edge.test("ticket(): another what", CARD + """
                sell 2 3 3 2 1 8
                ticket 0 {min,-2,-1,7,8,256,max} -> -1
                ticket 0 {0..6} -> 2 3 3 2 1 8 0
                """);
        Edge.test("ticket(): a, b, c as they are now", CARD + """
                substitute 1 6
                sell 0 4 3 2 0 1000
                ticket 0 {0..6} -> 0 4 3 2 0 1000 0
                scratch 1 2 -> 0
                ticket 0 {0..6} -> 0 4 3 6 0 1000 0
                scratch 2 3 -> 1
                ticket 0 {0..6} -> 0 4 3 6 0 1000 2
                """);
    }

    private static void promise20Units() {
        Edge.test("units(): of SOLD and PAID TICKETS", CARD + """
                sell 1 0 1 0 0 1
                sell 1 0 1 0 0 2
                sell 1 0 1 0 0 4
                sell 1 0 2 0 0 100
                units 1 0 {1,2,3} 0 0 -> 7 100 0
                cancel 0
                units 1 0 1 0 0 -> 6
                finish 1 1 2 3 -> 4
                pay 1
                units 1 0 {1,2} 0 0 -> 6 100
                """);
        Edge.test("units(): none of REFUNDED ones, SCRATCHED or VOID", CARD + """
                sell 1 0 1 0 0 1
                sell 1 0 2 0 0 2
                scratch 1 1 -> 1
                units 1 0 {1,2} 0 0 -> 0 2
                finish 1 0 4 1 2 3 -> 4
                units 1 0 {1,2} 0 0 -> 0
                """);
        Edge.test("units(): of the greatest number", """
                race 1 2
                pool 1 0 0 1000
                508* sell 1 0 1 0 0 1000
                units 1 0 1 0 0 -> 508000
                """);
    }

    private static void promise20NoneOfThem() {
        Edge.test("units(): no such POOL", CARD + """
                units {min,-1,0,3,4,13,max} {0..3} 1 2 3 -> -1
                units 1 {min,-1,5,max} 1 2 3 -> -1
                units {min,0,13,max} 4 1 2 0 -> 0
                """);
        Edge.test("units(): there is no DOUBLE", """
                race {1,2} 4
                units {0,1} 4 1 1 0 -> -1
                """);
        Edge.test("units(): no such RUNNERS", CARD + """
                units 1 {0..3} {min,-1,0,7,max} 2 3 -> -1
                units 1 {0..3} 6 2 3 -> 0
                units 1 {2,3} 1 {min,-1,0,7,max} 3 -> -1
                units 1 {2,3} 1 6 3 -> 0
                units 1 3 1 2 {min,-1,0,7,max} -> -1
                units 1 3 1 2 6 -> 0
                units 0 4 {min,-1,0,5,max} 1 0 -> -1
                units 0 4 1 {min,-1,0,7,max} 0 -> -1
                units 0 4 4 6 0 -> 0
                units 1 {0,1} 1 {min,max} {min,max} -> 0
                units 1 2 1 2 {min,max,1,2} -> 0
                units 0 4 1 1 {min,max} -> 0
                """);
        Edge.test("units(): two are one", CARD + """
                units 1 2 1 1 2 -> -1
                units 1 3 {1,2} {1,2} 1 -> -1
                units 1 3 1 2 2 -> -1
                units 1 {0,1} 1 1 1 -> 0
                units 0 4 1 1 1 -> 0
                """);
        Edge.test("units(): SCRATCHED ones can be named, and of races that are not OPEN", CARD + """
                scratch 1 1 -> 0
                units 1 {0..3} 1 2 3 -> 0
                off 1
                units 1 {0..3} 1 2 3 -> 0
                units 0 4 1 1 0 -> 0
                """);
    }

    private static void promise22Count() {
        Edge.test("count(): nothing sold yet", CARD + "count {0..5} -> 0");
        Edge.test("count(): another what", CARD + """
                sell 1 0 1 0 0 1
                count {min,-2,-1,6,7,256,max} -> -1
                """);
        Edge.test("count(): each of what they can be", CARD + """
                sell 1 0 1 0 0 1
                count {0..5} -> 1 1 0 0 0 0
                sell 1 0 2 0 0 2
                sell 1 0 3 0 0 4
                sell 1 0 4 0 0 8
                sell 0 4 1 1 0 16
                count {0..5} -> 5 5 0 0 0 0
                cancel 1
                count {0..5} -> 5 4 1 0 0 20
                scratch 1 3 -> 1
                count {0..5} -> 5 3 1 1 0 60
                finish 1 1 4 0 2 3 -> 4
                pay 0 -> 80
                count {0..5} -> 5 2 1 1 1 60
                finish 2 2 1 3 -> 5
                count {0..5} -> 5 1 1 2 1 380
                """);
        Edge.test("count(): VOID money went back", CARD + """
                sell 1 0 1 0 0 {1,2}
                cancel 0
                finish 1 4 1 2 3 -> 4
                count {0..5} -> 2 0 1 1 0 30
                """);
    }
}
