import java.util.function.Supplier;

/** The edges of promises 7 to 12 and 22 to 25: what is too small, too large, empty, full or refused. */
public final class StandingEdgesTest {
    private static final int MAX = Edge.MAX, MIN = Edge.MIN;
    private static final int NONE = -1, LACKING = -5;
    private static final Supplier<SwissRounds> EMPTY = Edge.busy(SwissRounds::new);
    private static final Supplier<SwissRounds> FOUR = Edge.busy(Edge::fourAfterTwo);
    private static final Supplier<SwissRounds> TWELVE = Edge.busy(StandingEdgesTest::twelveAfterOne);

    /** A question that two PLAYERS are named in. */
    private interface Question {
        int of(SwissRounds x, int one, int other);
    }

    private static SwissRounds twelveAfterOne() {
        SwissRounds x = Edge.twelve();
        Edge.round(x, "111111");
        return x;
    }

    /** ROUND 0 of four(): 3 with WHITE against 2, 0 with WHITE against 1. */
    private static SwissRounds fourAfter(String results) {
        SwissRounds x = Edge.four();
        Edge.round(x, results);
        return x;
    }

    private static SwissRounds fourWithOpen(String results) {
        SwissRounds x = Edge.fourOpen();
        Edge.results(x, results);
        return x;
    }

    private static SwissRounds fiveAfter(String results) {
        SwissRounds x = Edge.five();
        Edge.round(x, results);
        return x;
    }

    private static String ties(SwissRounds x, int player) {
        return Edge.row(9, which -> x.tie(player, which));
    }

    private static void tie() {
        Edge.promise("7, tie");
        Edge.due("which 0 .. 8", ties(Edge.fourAfterTwo(), 0), "3 5 3 7 1 1 5 1 1000");
        Edge.refused("NONE: player below 0", FOUR, x -> x.tie(-1, 8), NONE);
        Edge.refused("NONE: player yet to come", FOUR, x -> x.tie(4, 0), NONE);
        Edge.refused("NONE: player, the greatest int", FOUR, x -> x.tie(MAX, 0), NONE);
        Edge.refused("NONE: player, the least int", FOUR, x -> x.tie(MIN, 0), NONE);
        Edge.refused("NONE: player 12 of a full field", TWELVE, x -> x.tie(12, 0), NONE);
        Edge.refused("NONE: no PLAYERS", EMPTY, x -> x.tie(0, 0), NONE);
        Edge.refused("NONE: which below 0", FOUR, x -> x.tie(1, -1), NONE);
        Edge.refused("NONE: which above 8", FOUR, x -> x.tie(1, 9), NONE);
        Edge.refused("NONE: which, the greatest int", FOUR, x -> x.tie(1, MAX), NONE);
        Edge.refused("NONE: which, the least int", FOUR, x -> x.tie(1, MIN), NONE);
        tiesOfOneRound();
        tiesOfForfeits();
        tiesOfManyRounds();
    }

    private static void tiesOfOneRound() {
        Edge.due("before any ROUND", ties(Edge.four(), 0), "0 0 0 0 0 0 0 0 1000");
        Edge.due("POINTS by BOARDS of DONE ROUNDS: an OPEN one has none", ties(fourWithOpen("11"), 3), "0 0 0 0 0 0 0 0 1030");
        Edge.due("a win over one without POINTS", ties(fourAfter("11"), 3), "2 0 0 0 1 0 2 0 1030");
        Edge.due("CUT of one with one opponent: nothing is left", ties(fourAfter("11"), 2), "0 2 0 0 0 1 0 0 1020");
        Edge.due("a draw: BEATEN once the POINTS", ties(fourAfter("=1"), 3), "1 1 0 1 0 0 1 1 1030");
        Edge.due("a draw, with BLACK", ties(fourAfter("=1"), 2), "1 1 0 1 0 1 1 1 1020");
        Edge.due("BLACK won", ties(fourAfter("01"), 2), "2 0 0 0 1 1 2 0 1020");
        Edge.due("WHITE lost", ties(fourAfter("01"), 3), "0 2 0 0 0 0 0 0 1030");
        SwissRounds twelve = Edge.twelve();
        Edge.round(twelve, "011110");
        Edge.due("the last of 12 lost to one with POINTS", ties(twelve, 11), "0 2 0 0 0 0 0 0 1200");
        Edge.due("the first of 12 lost to one with POINTS", ties(twelve, 0), "0 2 0 0 0 0 0 0 100");
        Edge.due("POINTS by BYES", ties(fiveAfter("11"), 0), "2 0 0 0 0 0 2 0 1500");
        Edge.due("of an OPEN ROUND no POINTS by BYES", ties(Edge.fiveOpen(), 0), "0 0 0 0 0 0 0 0 1500");
    }

    private static void tiesOfForfeits() {
        Edge.due("2 for a win by forfeit, and no WINS", ties(fourAfter("+1"), 3), "2 0 0 0 0 0 2 0 1030");
        Edge.due("0 for a loss by forfeit, and no OPPONENTS, no BLACKS", ties(fourAfter("+1"), 2), "0 0 0 0 0 0 0 0 1020");
        Edge.due("BLACK won by forfeit", ties(fourAfter("-1"), 2), "2 0 0 0 0 0 2 0 1020");
        Edge.due("both forfeited: nothing for WHITE", ties(fourAfter("x1"), 3), "0 0 0 0 0 0 0 0 1030");
        Edge.due("both forfeited: nothing for BLACK", ties(fourAfter("x1"), 2), "0 0 0 0 0 0 0 0 1020");
        SwissRounds x = Edge.field(3000, 2000);
        Edge.round(x, "+");
        Edge.round(x, "-");
        Edge.due("DIRECT: nothing by forfeit", ties(x, 0), "2 0 0 0 0 0 4 0 3000");
        Edge.due("GROWTH: POINTS behind each ROUND", ties(x, 1), "2 0 0 0 0 0 2 0 2000");
    }

    private static void tiesOfManyRounds() {
        Edge.due("CUT: less the least, who has no POINTS", ties(Edge.fourAfterTwo(), 1), "2 3 3 0 1 1 2 0 1010");
        Edge.due("CUT: less the least of two, 2 and 3", ties(Edge.fourAfterTwo(), 2), "0 5 3 0 0 2 0 0 1020");
        Edge.due("DIRECT: against those with as many POINTS alone", ties(Edge.fourAfterTwo(), 3), "3 3 3 3 1 0 5 1 1030");
        SwissRounds x = Edge.fourAfterTwo();
        x.pair();
        Edge.results(x, "11");
        Edge.due("GROWTH of all DONE ones, not of the OPEN one", x.tie(3, 6), 5);
        SwissRounds y = Edge.twenty();
        Edge.due("20 ROUNDS without POINTS", ties(y, 0), "0 0 0 0 0 0 0 0 3000");
        SwissRounds z = Edge.field(3000, 2000);
        for (int i = 0; i < 20; i++) {
            Edge.round(z, "+");
        }
        Edge.due("20 wins by forfeit: GROWTH is 2 + 4 + .. + 40", ties(z, 0), "40 0 0 0 0 0 420 0 3000");
    }

    private static void rank() {
        Edge.promise("8, rank");
        SwissRounds x = Edge.fourAfterTwo();
        Edge.due("0 ahead of the first, 3 ahead of the last", Edge.row(4, x::rank), "0 2 3 1");
        Edge.due("11 ahead of the last of 12", Edge.twelve().rank(0), 11);
        Edge.due("0 ahead of the only one", Edge.field(5).rank(0), 0);
        Edge.refused("NONE: below 0", FOUR, y -> y.rank(-1), NONE);
        Edge.refused("NONE: yet to come", FOUR, y -> y.rank(4), NONE);
        Edge.refused("NONE: the greatest int", FOUR, y -> y.rank(MAX), NONE);
        Edge.refused("NONE: the least int", FOUR, y -> y.rank(MIN), NONE);
        Edge.refused("NONE: 12 of a full field", TWELVE, y -> y.rank(12), NONE);
        Edge.refused("NONE: no PLAYERS", EMPTY, y -> y.rank(0), NONE);
    }

    private static SwissRounds fourBy(String order) {
        SwissRounds x = Edge.fourAfterTwo();
        Edge.order(x, order);
        return x;
    }

    private static void nth() {
        Edge.promise("9, nth");
        Edge.due("0: the first, 3: the last", Edge.standing(Edge.fourAfterTwo()), "0 3 1 2");
        Edge.due("11: the last of 12", Edge.twelve().nth(11), 0);
        Edge.refused("NONE: below 0", FOUR, x -> x.nth(-1), NONE);
        Edge.refused("NONE: as many as there are", FOUR, x -> x.nth(4), NONE);
        Edge.refused("NONE: the greatest int", FOUR, x -> x.nth(MAX), NONE);
        Edge.refused("NONE: the least int", FOUR, x -> x.nth(MIN), NONE);
        Edge.refused("NONE: 12 of a full field", TWELVE, x -> x.nth(12), NONE);
        Edge.refused("NONE: no PLAYERS", EMPTY, x -> x.nth(0), NONE);
        Edge.due("alike in all: the lesser number ahead", Edge.standing(Edge.field(7, 7, 7)), "0 1 2");
        Edge.due("alike in all of 12: the lesser number ahead", Edge.standing(Edge.field(0, 0, 0, 0, 0, 0, 0, 0, 0, 0, 0, 0)),
            "0 1 2 3 4 5 6 7 8 9 10 11");
        Edge.due("POINTS are ahead of what ORDER has", Edge.standing(fourBy("k")), "0 3 1 2");
        Edge.due("the second of ORDER decides if the first is alike", Edge.standing(fourBy("dr")), "3 0 1 2");
        Edge.due("what isn't in ORDER decides nothing", Edge.standing(fourBy("d")), "0 3 1 2");
        SwissRounds open = Edge.four();
        open.pair();
        Edge.results(open, "01");
        Edge.due("of an OPEN ROUND nothing stands in it", Edge.standing(open), "3 2 1 0");
        open.close();
        Edge.due("of a DONE ROUND all does", Edge.standing(open), "2 0 3 1");
    }

    private static void explain() {
        Edge.promise("10, explain");
        SwissRounds x = Edge.fourAfterTwo();
        Edge.due("the first TIE-BREAK in which they differ", x.explain(0, 3, 0), 1);
        Edge.due("how much greater the one's is", x.explain(0, 3, 1), 2);
        Edge.due("below 0: less", x.explain(3, 0, 1), -2);
        Edge.due("POINTS are the first", x.explain(1, 0, 0), 0);
        SwissRounds y = Edge.field(7, 7, 3000, 0);
        Edge.due("-5: none, the number", y.explain(1, 0, 0), LACKING);
        Edge.due("by numbers: the other's number less the one's", y.explain(0, 1, 1), 1);
        Edge.due("by numbers, below 0", y.explain(1, 0, 1), -1);
        Edge.due("RATINGS as far apart as can be", y.explain(2, 3, 1), 3000);
        Edge.due("RATINGS as far apart as can be, below 0", y.explain(3, 2, 1), -3000);
        Edge.due("numbers as far apart as can be", Edge.field(5, 0, 0, 0, 0, 0, 0, 0, 0, 0, 0, 5).explain(0, 11, 1), 11);
        dueTwoNumbers((z, one, other) -> z.explain(one, other, 0));
        dueTwoNumbers((z, one, other) -> z.explain(one, other, 1));
        Edge.refused("NONE: what below 0", FOUR, z -> z.explain(0, 3, -1), NONE);
        Edge.refused("NONE: what above 1", FOUR, z -> z.explain(0, 3, 2), NONE);
        Edge.refused("NONE: what, the greatest int", FOUR, z -> z.explain(0, 3, MAX), NONE);
        Edge.refused("NONE: what, the least int", FOUR, z -> z.explain(0, 3, MIN), NONE);
    }

    private static void dueTwoNumbers(Question question) {
        int[] outside = {-1, 4, MAX, MIN};
        for (int number : outside) {
            Edge.refused("NONE: one is " + number, FOUR, x -> question.of(x, number, 0), NONE);
            Edge.refused("NONE: the other one is " + number, FOUR, x -> question.of(x, 3, number), NONE);
            Edge.refused("NONE: both are " + number, FOUR, x -> question.of(x, number, number), NONE);
        }
        Edge.refused("NONE: one twice", FOUR, x -> question.of(x, 2, 2), NONE);
        Edge.refused("NONE: the first one twice", FOUR, x -> question.of(x, 0, 0), NONE);
        Edge.refused("NONE: one is 12 of a full field", TWELVE, x -> question.of(x, 12, 0), NONE);
        Edge.refused("NONE: the other one is 12 of a full field", TWELVE, x -> question.of(x, 0, 12), NONE);
        Edge.refused("NONE: no PLAYERS", EMPTY, x -> question.of(x, 0, 1), NONE);
    }

    private static void met() {
        Edge.promise("11, met");
        SwissRounds x = Edge.fourAfterTwo();
        Edge.due("ROUND 0", x.met(3, 2), 0);
        Edge.due("ROUND 1, the other way about", x.met(0, 3), 1);
        Edge.due("-5: they have not", x.met(0, 2), LACKING);
        dueTwoNumbers(SwissRounds::met);
        Edge.due("RESULT 1: MET", fourAfter("11").met(3, 2), 0);
        Edge.due("RESULT 2: MET", fourAfter("=1").met(3, 2), 0);
        Edge.due("RESULT 3: MET", fourAfter("01").met(3, 2), 0);
        Edge.due("RESULT 4: not MET", fourAfter("+1").met(3, 2), LACKING);
        Edge.due("RESULT 5: not MET", fourAfter("-1").met(3, 2), LACKING);
        Edge.due("RESULT 6: not MET", fourAfter("x1").met(3, 2), LACKING);
        Edge.due("of an OPEN ROUND: not MET", fourWithOpen("11").met(3, 2), LACKING);
        Edge.due("-5 of him with the BYE", fiveAfter("11").met(0, 4), LACKING);
        Edge.due("the last ROUND of 20", metInTheLast().met(0, 1), 19);
    }

    private static SwissRounds metInTheLast() {
        SwissRounds x = Edge.twenty();
        x.drop();
        Edge.round(x, "=");
        return x;
    }

    private static void cost() {
        Edge.promise("12, cost");
        dueTwoNumbers(SwissRounds::cost);
        Edge.due("0 of two who have nothing", Edge.four().cost(0, 3), 0);
        SwissRounds one = fourAfter("11");
        Edge.due("-5: they have MET", one.cost(3, 2), LACKING);
        Edge.due("-5, the other way about", one.cost(2, 3), LACKING);
        Edge.due("BALANCES both above 0: 3, and the same COLOUR: 1", one.cost(0, 3), 4);
        Edge.due("BALANCES both below 0: 3, and the same COLOUR: 1", one.cost(1, 2), 4);
        Edge.due("one BALANCE above, one below 0: POINTS alone", one.cost(0, 2), 20);
        Edge.due("POINTS count without a sign", one.cost(2, 0), 20);
        SwissRounds two = Edge.fourAfterTwo();
        Edge.due("one BALANCE 0 and one above it: no 3", two.cost(1, 3), 11);
        Edge.due("one BALANCE 0 and one below it: no 3", two.cost(0, 2), 31);
        SwissRounds forfeit = fourAfter("+1");
        Edge.due("by forfeit they haven't MET", forfeit.cost(3, 2), 20);
        Edge.due("one without a LATEST COLOUR: no 1", forfeit.cost(3, 0), 0);
        Edge.due("both without a LATEST COLOUR: no 1", fourAfter("xx").cost(3, 2), 0);
        Edge.due("of an OPEN ROUND nothing counts", fourWithOpen("11").cost(3, 2), 0);
        SwissRounds out = Edge.fourAfterTwo();
        out.leave(0);
        Edge.due("of one who is OUT, too", out.cost(0, 2), 31);
        both0();
    }

    /** BALANCES 0 and LATEST COLOURS the same: the 1 alone. */
    private static void both0() {
        SwissRounds x = Edge.field(1000, 1010, 1020, 1030, 1040, 1050);
        Edge.round(x, "===");
        Edge.round(x, "===");
        int checked = 0;
        for (int one = 0; one < 6; one++) {
            for (int other = 0; other < 6; other++) {
                if (one != other && x.of(one, 4) == 100 && x.of(other, 4) == 100 && x.of(one, 5) == x.of(other, 5)
                        && x.met(one, other) == LACKING) {
                    Edge.due("both BALANCES 0 and the same COLOUR: 1", x.cost(one, other), 1);
                    checked++;
                }
            }
        }
        Edge.due("there are two such PLAYERS", checked > 0 ? 1 : 0, 1);
    }

    private static void direct() {
        Edge.promise("22, direct");
        dueTwoNumbers(SwissRounds::direct);
        SwissRounds x = Edge.fourAfterTwo();
        Edge.due("2 for a win", x.direct(3, 2), 2);
        Edge.due("0 for a loss", x.direct(2, 3), 0);
        Edge.due("1 for a draw", x.direct(0, 3), 1);
        Edge.due("1 for a draw, the other way about", x.direct(3, 0), 1);
        Edge.due("0: they haven't MET", x.direct(0, 2), 0);
        Edge.due("2 with BLACK", fourAfter("01").direct(2, 3), 2);
        Edge.due("over the board: 0 by forfeit", fourAfter("+1").direct(3, 2), 0);
        Edge.due("over the board: 0 by forfeit of WHITE", fourAfter("-1").direct(2, 3), 0);
        Edge.due("of an OPEN ROUND nothing", fourWithOpen("11").direct(3, 2), 0);
        Edge.due("0 against one whom he never had, in a ROUND with his BYE", fiveAfter("11").direct(0, 4), 0);
    }

    private static void average() {
        Edge.promise("23, average");
        Edge.due("0 over 1 without any: above", Edge.four().average(0, 0), 0);
        Edge.due("0 over 1 without any: below", Edge.four().average(0, 1), 1);
        Edge.due("by forfeit without any: above", fourAfter("+1").average(3, 0), 0);
        Edge.due("by forfeit without any: below", fourAfter("+1").average(3, 1), 1);
        Edge.due("of an OPEN ROUND without any: above", fourWithOpen("11").average(3, 0), 0);
        Edge.due("one: above", fourAfter("11").average(3, 0), 1020);
        Edge.due("one: below", fourAfter("11").average(3, 1), 1);
        Edge.due("one, PLAYER 0: above", fourAfter("11").average(1, 0), 1000);
        Edge.due("one, PLAYER 11 of 12: above", twelveAfterOne().average(10, 0), 1200);
        int[][] cases = {{0, 0, 1}, {1, 1, 4}, {2, 1, 2}, {3, 3, 4}, {4, 1, 1}, {6, 3, 2}, {3000, 750, 1}, {2998, 1499, 2}};
        for (int[] due : cases) {
            Edge.due(due[0] + " over 4, above", overFour(due[0], 0), due[1]);
            Edge.due(due[0] + " over 4, below", overFour(due[0], 1), due[2]);
        }
        for (int number : new int[] {-1, 4, MAX, MIN}) {
            Edge.refused("NONE: player " + number, FOUR, x -> x.average(number, 0), NONE);
        }
        for (int number : new int[] {-1, 2, MAX, MIN}) {
            Edge.refused("NONE: part " + number, FOUR, x -> x.average(0, number), NONE);
            Edge.refused("NONE: part " + number + " without any", TWELVE, x -> x.average(0, number), NONE);
        }
        Edge.refused("NONE: both", FOUR, x -> x.average(4, 2), NONE);
        Edge.refused("NONE: no PLAYERS", EMPTY, x -> x.average(0, 1), NONE);
        Edge.due("RATINGS as they are now", ratedSince(), 3000);
    }

    /** 0 has PLAYED four; their RATINGS together are this. */
    private static int overFour(int sum, int part) {
        SwissRounds x = Edge.field(9, 9, 9, 9, 9, 9, 9, 9);
        for (int round = 0; round < 4; round++) {
            Edge.round(x, "====");
            x.rate(x.game(0, round, 0), round == 0 ? sum : 0);
        }
        Edge.due("0 has PLAYED four", x.of(0, 3), 4);
        return x.average(0, part);
    }

    private static int ratedSince() {
        SwissRounds x = fourAfter("11");
        x.rate(2, 3000);
        return x.average(3, 0);
    }

    private static void alike() {
        Edge.promise("24, alike");
        SwissRounds x = Edge.fourAfterTwo();
        Edge.due("he, too", Edge.row(4, x::alike), "2 2 1 1");
        Edge.due("all, before any ROUND", Edge.twelve().alike(11), 12);
        Edge.due("the only one", Edge.field(5).alike(0), 1);
        Edge.refused("NONE: below 0", FOUR, y -> y.alike(-1), NONE);
        Edge.refused("NONE: as many as there are", FOUR, y -> y.alike(4), NONE);
        Edge.refused("NONE: the greatest int", FOUR, y -> y.alike(MAX), NONE);
        Edge.refused("NONE: the least int", FOUR, y -> y.alike(MIN), NONE);
        Edge.refused("NONE: 12 of a full field", TWELVE, y -> y.alike(12), NONE);
        Edge.refused("NONE: no PLAYERS", EMPTY, y -> y.alike(0), NONE);
        SwissRounds z = Edge.field(5, 4, 3);
        Edge.round(z, "1");
        Edge.due("the i-th in the STANDING, not PLAYER i", Edge.row(3, z::alike), "2 2 1");
    }

    private static void colours() {
        Edge.promise("25, colours");
        SwissRounds two = Edge.fourAfterTwo();
        Edge.due("BALANCES 2, 0, 0, -2", Edge.row(3, two::colours), "1 1 2");
        SwissRounds one = fourAfter("11");
        Edge.due("BALANCES 1, 1, -1, -1: none above 1 or below -1", Edge.row(3, one::colours), "2 2 0");
        SwissRounds forfeit = fourAfter("+-");
        Edge.due("BALANCES 0: none", Edge.row(3, forfeit::colours), "0 0 0");
        SwissRounds out = Edge.fourAfterTwo();
        out.leave(3);
        out.leave(2);
        Edge.due("PLAYERS who are OUT, too", Edge.row(3, out::colours), "1 1 2");
        SwissRounds twelve = twelveAfterOne();
        Edge.due("12 PLAYERS", Edge.row(3, twelve::colours), "6 6 0");
        Edge.refused("NONE: below 0", FOUR, x -> x.colours(-1), NONE);
        Edge.refused("NONE: above 2", FOUR, x -> x.colours(3), NONE);
        Edge.refused("NONE: the greatest int", FOUR, x -> x.colours(MAX), NONE);
        Edge.refused("NONE: the least int", FOUR, x -> x.colours(MIN), NONE);
    }

    public static void main(String[] args) {
        tie();
        rank();
        nth();
        explain();
        met();
        cost();
        direct();
        average();
        alike();
        colours();
        Edge.end("StandingEdgesTest");
    }
}
