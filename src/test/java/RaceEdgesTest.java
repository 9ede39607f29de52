/** The edges of Terms 3 and of promises 9 to 11 and 21: races, positions and who wins. */
public final class RaceEdgesTest {
    /** Races 1 (6 runners) and 2 (4), with all their pools and a double. */
    private static final String CARD = """
            race 1 6
            race 2 4
            pool {1,2} {0..3} 100 10
            pair 1 2 100 20
            """;

    /** Every ticket of one unit that can be sold among four runners, and nothing is deducted. */
    private static final String ALL_PAIRS = """
            race 1 4
            pool 1 2 0 10
            sell 1 2 1 {2,3,4} 0 1
            sell 1 2 2 {3,4} 0 1
            sell 1 2 3 4 0 1
            """;
    private static final String ALL_ORDERS = """
            race 1 4
            pool 1 3 0 10
            sell 1 3 1 2 {3,4} 1
            sell 1 3 1 3 {2,4} 1
            sell 1 3 1 4 {2,3} 1
            sell 1 3 2 1 {3,4} 1
            sell 1 3 2 3 {1,4} 1
            sell 1 3 2 4 {1,3} 1
            sell 1 3 3 1 {2,4} 1
            sell 1 3 3 2 {1,4} 1
            sell 1 3 3 4 {1,2} 1
            sell 1 3 4 1 {2,3} 1
            sell 1 3 4 2 {1,3} 1
            sell 1 3 4 3 {1,2} 1
            """;
    private static final String DOUBLE = """
            race {1,2} 4
            pair 2 1 0 10
            sell 0 4 {1..4} {1..4} 0 1
            """;

    public static void main(String[] args) {
        terms3HowManyPlaced();
        terms3FewRun();
        terms3LesserOnes();
        terms3Win();
        terms3Place();
        terms3PlaceTied();
        terms3Pair();
        terms3Order();
        terms3FewRunWinners();
        terms3Double();
        promise9Off();
        promise10Races();
        promise10Runners();
        promise10Positions();
        promise11Official();
        promise11HowManyPools();
        promise21Look();
        promise21NoneOfThem();
        Edge.end();
    }

    /** Whether a race with so many runners can be OFFICIAL with these positions. */
    private static void official(String sentence, int runners, String positions, boolean can) {
        Edge.test(sentence + ": " + positions, "race 1 " + runners + "\nrace 2 2\npool 1 {0..2} 0 10\nfinish 1 "
                + positions + " -> " + (can ? "3\nlook 1 0 -> 2" : "-1\nlook 1 0 -> 1"));
    }

    private static void terms3HowManyPlaced() {
        String three = "three RUNNERS or more have POSITIONS";
        official(three, 6, "0", false);
        official(three, 6, "1", false);
        official(three, 6, "1 2", false);
        official(three, 6, "1 1", false);
        official(three, 6, "1 2 3", true);
        official(three, 6, "0 0 0 3 2 1", true);
        official(three, 6, "1 2 3 4", true);
        official(three, 6, "1 2 3 4 5 6", true);
        official(three, 4, "1 2", false);
        official(three, 3, "1 2", false);
        official(three, 3, "1 2 3", true);
        official(three, 24, "24 23 22 21 20 19 18 17 16 15 14 13 12 11 10 9 8 7 6 5 4 3 2 1", true);
    }

    private static void terms3FewRun() {
        String fewer = "all that RUN have POSITIONS, if these are fewer";
        official(fewer, 2, "0", false);
        official(fewer, 2, "1", false);
        official(fewer, 2, "1 2", true);
        official(fewer, 2, "1 1", true);
        Edge.test("three RUN of four: all three are needed", """
                race 1 4
                scratch 1 2 -> 0
                finish 1 1 0 2 -> -1
                place 1 3 4
                official 1 -> 0
                """);
        Edge.test("two RUN of four: two are enough", """
                race 1 4
                scratch 1 {2,3} -> 0
                finish 1 1 -> -1
                place 1 2 4
                official 1 -> 0
                """);
        Edge.test("one RUNS: it is enough", """
                race 1 3
                scratch 1 {1,2} -> 0
                finish 1 -> -1
                place 1 2 3
                official 1 -> -1
                place 1 1 3
                official 1 -> 0
                """);
        Edge.test("none RUNS: none is needed", """
                race 1 2
                scratch 1 {1,2} -> 0
                official 1 -> -1
                off 1
                place 1 1 {1,2} -> false
                official 1 -> 0
                look 1 {0,2,3} -> 2 0 0
                """);
    }

    private static void terms3LesserOnes() {
        String each = "each is 1 more than how many have lesser ones";
        official(each, 6, "2 3 4", false);
        official(each, 6, "1 3 4", false);
        official(each, 6, "1 2 4", false);
        official(each, 6, "1 2 24", false);
        official(each, 6, "4 1 2", false);
        official(each, 6, "0 0 0 1 2 4", false);
        official(each, 6, "2 2 2", false);
        official(each, 6, "1 1 1", true);
        official(each, 6, "1 1 2", false);
        official(each, 6, "1 1 3", true);
        official(each, 6, "1 1 4", false);
        official(each, 6, "1 2 2", true);
        official(each, 6, "1 3 3", false);
        official(each, 6, "1 2 3 3", true);
        official(each, 6, "1 2 2 3", false);
        official(each, 6, "1 2 2 4", true);
        official(each, 6, "1 1 3 3", true);
        official(each, 6, "1 1 1 3", false);
        official(each, 6, "1 1 1 4", true);
        official(each, 6, "1 1 1 5", false);
        official(each, 6, "1 1 1 1", true);
        official(each, 6, "1 1 1 1 5 5", true);
        official(each, 6, "1 2 3 5", false);
        official(each, 6, "1 2 3 4 6", false);
        official(each, 6, "1 2 3 4 5 5", true);
        official(each, 3, "1 1 1", true);
        official(each, 2, "2 2", false);
        official(each, 2, "1 3", false);
    }

    private static void terms3Win() {
        String bets = """
                race 1 4
                pool 1 0 0 10
                sell 1 0 {1..4} 0 0 1
                """;
        Edge.test("WIN: POSITION 1", bets + """
                finish 1 3 1 2 4 -> 1
                sum 1 0 10 -> 1
                dividend 1 0 {1..4} 0 0 -> 0 40 0 0
                """);
        Edge.test("WIN: two TIED", bets + """
                finish 1 1 3 1 4 -> 1
                sum 1 0 10 -> 2
                dividend 1 0 {1..4} 0 0 -> 20 0 20 0
                """);
        Edge.test("WIN: two TIED second", bets + """
                finish 1 2 2 1 4 -> 1
                dividend 1 0 {1..4} 0 0 -> 0 0 40 0
                """);
        Edge.test("WIN: all TIED", bets + """
                finish 1 1 1 1 1 -> 1
                sum 1 0 10 -> 4
                dividend 1 0 {1..4} 0 0 -> 10
                """);
    }

    private static String placeBets(int runners) {
        return "race 1 " + runners + "\npool 1 1 0 10\nsell 1 1 {1.." + runners + "} 0 0 1\n";
    }

    private static void terms3Place() {
        Edge.test("PLACE: 4 RUN, VOID", placeBets(4) + """
                finish 1 1 2 3 4 -> 1
                sum 1 1 {10,11} -> 0 2
                """);
        Edge.test("PLACE: 5 RUN, POSITIONS 1, 2", placeBets(5) + """
                finish 1 1 2 3 4 5 -> 1
                sum 1 1 {10,11} -> 2 1
                # PROFIT 30, SHARES 15
                dividend 1 1 {1..5} 0 0 -> 20 20 0 0 0
                """);
        Edge.test("PLACE: 7 RUN, POSITIONS 1, 2", placeBets(7) + """
                finish 1 1 2 3 4 -> 1
                sum 1 1 {10,11} -> 2 1
                # PROFIT 50, SHARES 25
                dividend 1 1 {1..4} 0 0 -> 30 30 0 0
                """);
        Edge.test("PLACE: 8 RUN, POSITIONS 1 to 3", placeBets(8) + """
                finish 1 1 2 3 4 -> 1
                sum 1 1 {10,11} -> 3 1
                # PROFIT 50, SHARES 16
                dividend 1 1 {1..4} 0 0 -> 20 20 20 0
                """);
        Edge.test("PLACE: 24 RUN, POSITIONS 1 to 3", placeBets(24) + """
                finish 1 1 2 3 4 5 -> 1
                sum 1 1 {10,11} -> 3 1
                # PROFIT 210, SHARES 70
                dividend 1 1 {1..5} 0 0 -> 80 80 80 0 0
                """);
        Edge.test("PLACE: SCRATCHED ones don't count: 8 less 1", placeBets(8) + """
                scratch 1 8 -> 1
                finish 1 1 2 3 4 -> 1
                sum 1 1 {10,11} -> 2 1
                dividend 1 1 {1..4} 0 0 -> 30 30 0 0
                """);
        Edge.test("PLACE: SCRATCHED ones don't count: 5 less 1, VOID", placeBets(5) + """
                scratch 1 5 -> 1
                finish 1 1 2 3 4 -> 1
                sum 1 1 {1,10,11} -> 50 0 2
                """);
    }

    private static void terms3PlaceTied() {
        Edge.test("PLACE: two TIED first leave no second", placeBets(5) + """
                finish 1 1 1 3 4 -> 1
                dividend 1 1 {1..4} 0 0 -> 20 20 0 0
                """);
        Edge.test("PLACE: two TIED second", placeBets(5) + """
                finish 1 1 2 2 4 -> 1
                sum 1 1 10 -> 3
                # PROFIT 20, SHARES 6
                dividend 1 1 {1..4} 0 0 -> 10 10 10 0
                """);
        Edge.test("PLACE: three TIED first of 8 leave neither second nor third", placeBets(8) + """
                finish 1 1 1 1 4 -> 1
                sum 1 1 10 -> 3
                dividend 1 1 {1..4} 0 0 -> 20 20 20 0
                """);
        Edge.test("PLACE: two TIED first of 8 leave a third", placeBets(8) + """
                finish 1 1 1 3 4 -> 1
                dividend 1 1 {1..4} 0 0 -> 20 20 20 0
                """);
        Edge.test("PLACE: two TIED second of 8 leave no third", placeBets(8) + """
                finish 1 1 2 2 4 -> 1
                dividend 1 1 {1..4} 0 0 -> 20 20 20 0
                """);
        Edge.test("PLACE: two TIED third of 8", placeBets(8) + """
                finish 1 1 2 3 3 5 -> 1
                sum 1 1 10 -> 4
                # PROFIT 40, SHARES 10
                dividend 1 1 {1..5} 0 0 -> 20 20 20 20 0
                """);
        Edge.test("PLACE: all of 8 TIED", placeBets(8) + """
                finish 1 1 1 1 1 1 1 1 1 -> 1
                sum 1 1 10 -> 8
                dividend 1 1 {1..8} 0 0 -> 10
                """);
    }

    private static void terms3Pair() {
        Edge.test("PAIR: POSITIONS 1 and 2, either one first", ALL_PAIRS + """
                finish 1 4 2 1 3 -> 1
                sum 1 2 {3,10} -> 60 1
                dividend 1 2 2 3 0 -> 60
                dividend 1 2 3 2 0 -> 60
                dividend 1 2 3 {1,4} 0 -> 0
                """);
        Edge.test("PAIR: two TIED first", ALL_PAIRS + """
                finish 1 1 1 3 4 -> 1
                sum 1 2 10 -> 1
                dividend 1 2 1 {2,3} 0 -> 60 0
                dividend 1 2 2 3 0 -> 0
                """);
        Edge.test("PAIR: two TIED second", ALL_PAIRS + """
                finish 1 1 2 2 4 -> 1
                sum 1 2 {3,10} -> 60 2
                dividend 1 2 1 {2,3,4} 0 -> 30 30 0
                dividend 1 2 2 3 0 -> 0
                """);
        Edge.test("PAIR: three TIED second", ALL_PAIRS + """
                finish 1 1 2 2 2 -> 1
                sum 1 2 10 -> 3
                dividend 1 2 1 {2,3,4} 0 -> 20
                """);
        Edge.test("PAIR: three TIED first", ALL_PAIRS + """
                finish 1 1 1 1 4 -> 1
                sum 1 2 10 -> 3
                dividend 1 2 1 {2,3,4} 0 -> 20 20 0
                dividend 1 2 2 {3,4} 0 -> 20 0
                """);
        Edge.test("PAIR: all four TIED", ALL_PAIRS + """
                finish 1 1 1 1 1 -> 1
                sum 1 2 10 -> 6
                dividend 1 2 3 4 0 -> 10
                """);
        Edge.test("PAIR: two TIED third", ALL_PAIRS + """
                finish 1 1 2 3 3 -> 1
                sum 1 2 10 -> 1
                dividend 1 2 1 {2,3} 0 -> 60 0
                """);
    }

    private static void terms3Order() {
        Edge.test("ORDER: POSITIONS 1, 2, 3, in this order", ALL_ORDERS + """
                finish 1 2 4 1 3 -> 1
                sum 1 3 {3,10} -> 240 1
                dividend 1 3 3 1 4 -> 240
                dividend 1 3 1 3 4 -> 0
                dividend 1 3 3 4 1 -> 0
                dividend 1 3 3 1 2 -> 0
                """);
        Edge.test("ORDER: two TIED first", ALL_ORDERS + """
                finish 1 1 1 3 4 -> 1
                sum 1 3 {3,10} -> 240 2
                dividend 1 3 {1,2} {1,2} 3 -> -1 120 120 -1
                """);
        Edge.test("ORDER: two TIED second", ALL_ORDERS + """
                finish 1 1 2 2 4 -> 1
                sum 1 3 10 -> 2
                dividend 1 3 1 {2,3} {2,3} -> -1 120 120 -1
                dividend 1 3 2 1 3 -> 0
                """);
        Edge.test("ORDER: two TIED third", ALL_ORDERS + """
                finish 1 1 2 3 3 -> 1
                sum 1 3 {3,10} -> 240 2
                dividend 1 3 1 2 {3,4} -> 120
                dividend 1 3 1 3 4 -> 0
                """);
        Edge.test("ORDER: two TIED first and two third", ALL_ORDERS + """
                finish 1 1 1 3 3 -> 1
                sum 1 3 10 -> 4
                dividend 1 3 1 2 {3,4} -> 60
                dividend 1 3 2 1 {3,4} -> 60
                """);
        Edge.test("ORDER: three TIED first", ALL_ORDERS + """
                finish 1 1 1 1 4 -> 1
                sum 1 3 10 -> 6
                dividend 1 3 1 {2,3} {2,3} -> -1 40 40 -1
                dividend 1 3 2 {1,3} {1,3} -> -1 40 40 -1
                dividend 1 3 3 {1,2} {1,2} -> -1 40 40 -1
                """);
        Edge.test("ORDER: three TIED second", ALL_ORDERS + """
                finish 1 1 2 2 2 -> 1
                sum 1 3 10 -> 6
                dividend 1 3 1 {2,3,4} {2,3,4} -> -1 40 40 40 -1 40 40 40 -1
                """);
        Edge.test("ORDER: all four TIED", ALL_ORDERS + """
                finish 1 1 1 1 1 -> 1
                sum 1 3 10 -> 24
                dividend 1 3 4 3 2 -> 10
                """);
    }

    private static void terms3FewRunWinners() {
        String bets = """
                race 1 4
                pool 1 {0..3} 0 10
                sell 1 {0..3} 1 2 3 1
                sell 1 {0,1} 2 0 0 1
                """;
        Edge.test("two RUN: WIN and PAIR have WINNERS, PLACE is VOID, ORDER has none", bets + """
                scratch 1 {3,4} -> 1 0
                finish 1 2 1 -> 4
                sum 1 {0..3} 10 -> 1 0 1 0
                sum 1 {0..3} 11 -> 1 2 1 1
                dividend 1 {0..3} 1 2 3 -> 0 0 10 0
                dividend 1 0 2 0 0 -> 20
                """);
        Edge.test("three RUN, all TIED: every pair and every order", """
                race 1 4
                pool 1 {0..3} 0 10
                scratch 1 4 -> 0
                sell 1 2 3 {1,2} 0 1
                sell 1 3 3 {1,2} {2,1} 1 -> 2 -6 -6 3
                finish 1 1 1 1 -> 4
                sum 1 {2,3} {3,10} -> 20 2 20 2
                """);
        Edge.test("two RUN, TIED", bets + """
                scratch 1 {3,4} -> 1 0
                finish 1 1 1 -> 4
                sum 1 {0..3} 10 -> 2 0 1 0
                dividend 1 0 {1,2} 0 0 -> 10
                dividend 1 2 1 2 0 -> 10
                """);
        Edge.test("one RUNS: WIN alone has a WINNER", bets + """
                scratch 1 {2,3,4} -> 4 0 0
                finish 1 1 -> 4
                sum 1 {0..3} 10 -> 1 0 0 0
                sum 1 {0..3} 11 -> 1 2 2 1
                dividend 1 0 1 0 0 -> 10
                """);
        Edge.test("none RUNS: no WINNERS", bets + """
                scratch 1 {1..4} -> 4 2 0 0
                off 1
                official 1 -> 4
                sum 1 {0..3} 10 -> 0
                sum 1 {0..3} 11 -> 2 2 2 1
                """);
    }

    private static void terms3Double() {
        Edge.test("DOUBLE: a POSITION 1 of the first RACE and one of the second", DOUBLE + """
                finish 1 2 1 3 4 -> 0
                finish 2 3 4 1 2 -> 1
                sum 0 4 {3,10} -> 160 1
                dividend 0 4 3 2 0 -> 160
                dividend 0 4 2 3 0 -> 0
                dividend 0 4 {3,4} {1,2} 0 -> 0 160 0 0
                """);
        Edge.test("DOUBLE: TIED in the first RACE", DOUBLE + """
                finish 2 1 1 3 4 -> 0
                finish 1 3 2 1 4 -> 1
                sum 0 4 10 -> 2
                dividend 0 4 {1,2,3} 3 0 -> 80 80 0
                """);
        Edge.test("DOUBLE: TIED in the second RACE", DOUBLE + """
                finish 2 3 2 1 4 -> 0
                finish 1 1 1 3 4 -> 1
                sum 0 4 10 -> 2
                dividend 0 4 3 {1,2,3} 0 -> 80 80 0
                """);
        Edge.test("DOUBLE: TIED in both", DOUBLE + """
                finish 2 1 1 3 4 -> 0
                finish 1 1 1 3 4 -> 1
                sum 0 4 10 -> 4
                dividend 0 4 {1,2} {1,2} 0 -> 40
                """);
        Edge.test("DOUBLE: none RUNS in one RACE", DOUBLE + """
                scratch 2 {1..4} -> 4
                finish 1 1 2 3 -> 0
                off 2
                official 2 -> 1
                sum 0 4 {10,11} -> 0 2
                """);
    }

    private static void promise9Off() {
        Edge.test("off(): no such RACE, or it was not told", CARD + """
                off {min,-1,0,3,4,11,12,13,257,max} -> false
                look {1,2} 0 -> 0
                """);
        Edge.test("off(): an OPEN one, alone", CARD + """
                off 1
                look {1,2} 0 -> 1 0
                """);
        Edge.test("off(): it is OFF, or OFFICIAL", CARD + """
                off 1
                off 1 -> false
                place 1 1 1
                off 1 -> false
                look 1 101 -> 1
                finish 2 1 2 3 -> 4
                off 2 -> false
                look 2 0 -> 2
                """);
        Edge.test("off(): none RUNS", CARD + """
                scratch 2 {1..4} -> 0
                off 2
                """);
    }

    private static void promise10Races() {
        Edge.test("place(): no such RACE, or it was not told", CARD + """
                off {1,2}
                place {min,-1,0,3,12,13,257,max} 1 1 -> false
                """);
        Edge.test("place(): the RACE is OPEN", CARD + """
                place 1 {0,1} 1 -> false
                look 1 {3,101} -> 0
                off 2
                place 1 1 1 -> false
                """);
        Edge.test("place(): the RACE is OFFICIAL", CARD + """
                finish 2 1 2 3 -> 4
                place 2 {0,1,2,3,4} {1,4} -> false
                look 2 {3,101,104} -> 3 1 0
                """);
    }

    private static void promise10Runners() {
        Edge.test("place(): no such RUNNER", CARD + """
                off {1,2}
                place 1 1 {min,-1,0,7,8,24,257,max} -> false
                place 2 1 {0,5,6} -> false
                look {1,2} 3 -> 0
                place 1 1 {1,6}
                place 2 1 {1,4}
                look {1,2} 3 -> 2
                """);
        Edge.test("place(): a RUNNER that is SCRATCHED", CARD + """
                scratch 1 3 -> 0
                off 1
                place 1 {0,1,24} 3 -> false
                look 1 {2,3,103} -> 5 0 -1
                """);
    }

    private static void promise10Positions() {
        Edge.test("place(): POSITIONS 1 to 24, and 0", CARD + """
                off 1
                place 1 {min,-24,-2,-1,25,26,257,65536,max} 1 -> false
                look 1 {3,101} -> 0
                place 1 1 1
                look 1 {3,101} -> 1
                place 1 24 1
                look 1 {3,101} -> 1 24
                place 1 {min,-1,25,max} 1 -> false
                look 1 {3,101} -> 1 24
                place 1 0 1
                look 1 {3,101} -> 0
                """);
        Edge.test("place(): POSITION 24 of two that RUN", """
                race 1 2
                off 1
                place 1 24 {1,2}
                look 1 {3,101,102} -> 2 24 24
                official 1 -> -1
                """);
        Edge.test("place(): in place of one that it has", CARD + """
                off 1
                place 1 3 {1,2}
                place 1 5 1
                look 1 {3,101,102} -> 2 5 3
                place 1 5 1
                look 1 {3,101} -> 2 5
                """);
        Edge.test("place(): 0 of one that has none", CARD + """
                off 1
                place 1 0 1
                look 1 {3,101} -> 0
                """);
    }

    private static void promise11Official() {
        Edge.test("official(): no such RACE, or it was not told", CARD + """
                off {1,2}
                official {min,-1,0,3,12,13,257,max} -> -1
                """);
        Edge.test("official(): it is OPEN", CARD + """
                official {1,2} -> -1
                scratch 2 {1..4} -> 0
                official 2 -> -1
                look {1,2} 0 -> 0
                """);
        Edge.test("official(): it can't be", CARD + """
                sell 1 {0..3} 1 2 3 1
                finish 1 1 2 -> -1
                look 1 0 -> 1
                sum 1 {0..3} 11 -> 0
                place 1 4 3
                official 1 -> -1
                place 1 3 3
                official 1 -> 4
                sum 1 {0..3} 11 -> 1
                """);
        Edge.test("official(): it is OFFICIAL", CARD + """
                finish 1 1 2 3 -> 4
                official 1 -> -1
                look 1 0 -> 2
                """);
    }

    private static void promise11HowManyPools() {
        Edge.test("official(): a RACE without POOLS", """
                race {1,2} 2
                pool 2 {0..3} 0 10
                finish 1 1 2 -> 0
                sum 2 {0..3} 11 -> 0
                """);
        Edge.test("official(): one POOL, of each KIND", """
                race {1..4} 3
                pool 1 0 0 10
                pool 2 1 0 10
                pool 3 2 0 10
                pool 4 3 0 10
                finish 1 1 2 3 -> 1
                finish 2 1 2 3 -> 1
                finish 3 1 2 3 -> 1
                finish 4 1 2 3 -> 1
                """);
        Edge.test("official(): the DOUBLE with the later of both, here its first", CARD + """
                finish 2 1 2 3 -> 4
                sum 0 4 11 -> 0
                finish 1 1 2 3 -> 5
                sum 0 4 11 -> 2
                """);
        Edge.test("official(): the DOUBLE with the later of both, here its second", CARD + """
                finish 1 1 2 3 -> 4
                sum 0 4 11 -> 0
                finish 2 1 2 3 -> 5
                sum 0 4 11 -> 2
                """);
        Edge.test("official(): the DOUBLE not with a third RACE, nor while the other is OFF", "race 3 2\n" + CARD + """
                finish 1 1 2 3 -> 4
                off 2
                finish 3 1 2 -> 0
                sum 0 4 11 -> 0
                """);
    }

    private static void promise21Look() {
        Edge.test("look(): 0 to 4 of a RACE that was just told", CARD + """
                look 1 {0..4} -> 0 6 6 0 0
                look 2 {0..4} -> 0 4 4 0 0
                look 1 {101..106} -> 0
                """);
        Edge.test("look(): as they change", CARD + """
                substitute 1 6
                scratch 1 {2,3} -> 0
                look 1 {0..4} -> 0 6 4 0 6
                off 1
                look 1 {0..4} -> 1 6 4 0 6
                place 1 1 {1,6}
                place 1 24 4
                look 1 {0..4} -> 1 6 4 3 6
                look 1 {101..106} -> 1 -1 -1 24 0 1
                place 1 3 4
                official 1 -> 4
                look 1 {0..4} -> 2 6 4 3 6
                look 2 {0..4} -> 0 4 4 0 0
                """);
        Edge.test("look(): none RUNS", CARD + """
                scratch 2 {1..4} -> 0
                look 2 {0..4} -> 0 4 0 0 0
                look 2 {101..104} -> -1
                """);
        Edge.test("look(): a SUBSTITUTE that was SCRATCHED goes on being told", CARD + """
                substitute 1 6
                scratch 1 6 -> 0
                look 1 4 -> 6
                """);
    }

    private static void promise21NoneOfThem() {
        Edge.test("look(): no such RACE, or it was not told", CARD + """
                look {min,-1,0,3,12,13,257,max} {0..4} -> -2
                look {min,-1,0,3,12,13,max} {100,101,102} -> -2
                """);
        Edge.test("look(): another what", CARD + """
                look 1 {min,-101,-2,-1,5,6,24,99,256,max} -> -2
                # 101 and 106, but for the sign
                look 1 {-2147483547,-2147483542,-101,-106} -> -2
                """);
        Edge.test("look(): no such RUNNER", CARD + """
                look 1 {100,107,108,124,125} -> -2
                look 2 {100,105,106} -> -2
                look 1 {101,106} -> 0
                look 2 {101,104} -> 0
                """);
    }
}
