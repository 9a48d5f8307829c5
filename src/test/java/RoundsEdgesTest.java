import java.util.function.Supplier;
import java.util.function.ToIntFunction;

/** The edges of promises 13 to 21: what is too small, too large, empty, full or refused. */
public final class RoundsEdgesTest {
    private static final int MAX = Edge.MAX, MIN = Edge.MIN;
    private static final int NONE = -1, BAD = -2, STATE = -3, FULL = -4, LACKING = -5, NO_PAIRING = -9;
    private static final int[] OUTSIDE = {-1, MAX, MIN};
    private static final Supplier<SwissRounds> EMPTY = Edge.busy(SwissRounds::new);
    private static final Supplier<SwissRounds> FOUR = Edge.busy(Edge::four);
    private static final Supplier<SwissRounds> FOUR_OPEN = Edge.busy(Edge::fourOpen);
    private static final Supplier<SwissRounds> AFTER_TWO = Edge.busy(Edge::fourAfterTwo);
    private static final Supplier<SwissRounds> FIVE_OPEN = Edge.busy(Edge::fiveOpen);
    private static final Supplier<SwissRounds> TWELVE_OPEN = Edge.busy(RoundsEdgesTest::twelveOfTwo);
    private static final Supplier<SwissRounds> TWENTY = Edge.busy(Edge::twenty);
    private static final Supplier<SwissRounds> TWENTY_OPEN = Edge.busy(() -> reopened(Edge.twenty()));
    private static final Supplier<SwissRounds> ONE = Edge.busy(() -> Edge.field(1500));
    private static final Supplier<SwissRounds> ONE_IN = Edge.busy(() -> fourWithIn(1));
    private static final Supplier<SwissRounds> NONE_IN = Edge.busy(() -> fourWithIn(0));
    private static final Supplier<SwissRounds> TWO_MET = Edge.busy(() -> twoAfter("1"));
    private static final Supplier<SwissRounds> STUCK = Edge.busy(RoundsEdgesTest::stuckByTheBye);

    /** A DONE ROUND and an OPEN one, of 6 BOARDS each. */
    private static SwissRounds twelveOfTwo() {
        SwissRounds x = Edge.twelve();
        Edge.round(x, "111111");
        x.pair();
        return x;
    }

    private static SwissRounds reopened(SwissRounds x) {
        x.drop();
        x.pair();
        return x;
    }

    private static SwissRounds fourWithIn(int in) {
        SwissRounds x = Edge.fourAfterTwo();
        for (int player = in; player < 4; player++) {
            x.leave(player);
        }
        return x;
    }

    private static SwissRounds twoAfter(String results) {
        SwissRounds x = Edge.field(3000, 2000);
        for (int i = 0; i < results.length(); i++) {
            Edge.round(x, results.substring(i, i + 1));
        }
        return x;
    }

    private static SwissRounds after(SwissRounds x, String... rounds) {
        for (String results : rounds) {
            Edge.round(x, results);
        }
        return x;
    }

    /** The BYE is 2's, who is the last, and 0 and 1 have MET; with 1's BYE there would be a PAIRING. */
    private static SwissRounds stuckByTheBye() {
        SwissRounds x = Edge.field(3, 2, 1);
        x.leave(2);
        Edge.round(x, "1");
        x.back(2);
        return x;
    }

    /** 20 ROUNDS, and those who are IN have MET in the last one. */
    private static SwissRounds twentyAndMet() {
        SwissRounds x = Edge.twenty();
        x.drop();
        return after(x, "=");
    }

    private static SwissRounds twentyWithOneIn() {
        SwissRounds x = Edge.twenty();
        x.leave(0);
        return x;
    }

    private static String paired(SwissRounds x) {
        x.pair();
        return Edge.boards(x, x.told(2) - 1);
    }

    private static void pair() {
        Edge.promise("13, pair");
        Edge.refused("BAD: no PLAYERS", EMPTY, SwissRounds::pair, BAD);
        Edge.refused("BAD: one PLAYER", ONE, SwissRounds::pair, BAD);
        Edge.refused("BAD: one of four is IN", ONE_IN, SwissRounds::pair, BAD);
        Edge.refused("BAD: none of four is IN", NONE_IN, SwissRounds::pair, BAD);
        Edge.refused("STATE: one is OPEN", FOUR_OPEN, SwissRounds::pair, STATE);
        Edge.refused("FULL: 20 there are", TWENTY, SwissRounds::pair, FULL);
        Edge.refused("STATE ahead of FULL: the last of 20 is OPEN", TWENTY_OPEN, SwissRounds::pair, STATE);
        Edge.refused("BAD ahead of FULL: one is IN", Edge.busy(RoundsEdgesTest::twentyWithOneIn), SwissRounds::pair, BAD);
        Edge.refused("FULL ahead of -9", Edge.busy(RoundsEdgesTest::twentyAndMet), SwissRounds::pair, FULL);
        Edge.refused("-9: the two who are IN have MET", TWO_MET, SwissRounds::pair, NO_PAIRING);
        Edge.refused("-9: the BYE is given ahead of the twos", STUCK, SwissRounds::pair, NO_PAIRING);
        Edge.refused("-9: all of four have MET", Edge.busy(() -> after(Edge.fourAfterTwo(), "11")), SwissRounds::pair, NO_PAIRING);
        Edge.due("the 20th", reopened(Edge.twenty()).told(2), 20);
        Edge.due("two: a BOARD, no BYE", paired(Edge.field(2, 1)), "0-1");
        Edge.due("three: a BOARD and a BYE", paired(Edge.field(3, 2, 1)), "0-1 +2");
        Edge.due("12: BOARDS 0, 2, .. WHITE ahead, 1, 3, .. the other one", paired(Edge.twelve()), "11-10 8-9 7-6 4-5 3-2 0-1");
        Edge.due("how many BOARDS: 6 of 12", Edge.twelve().pair(), 6);
        SwissRounds eleven = Edge.twelve();
        eleven.leave(0);
        Edge.due("how many BOARDS: 5 of 11", eleven.pair(), 5);
        Edge.due("11 who are IN: the last of them has the BYE", Edge.boards(eleven, 0), "11-10 8-9 7-6 4-5 3-2 +1");
        Edge.due("RESULTS of a new ROUND: none yet", Edge.twelveOpen().board(0, 5, 2), 0);
        Edge.due("two who are IN of twelve", paired(twoOfTwelve()), "11-0");
        byes();
        whites();
    }

    private static SwissRounds twoOfTwelve() {
        SwissRounds x = Edge.twelve();
        for (int player = 1; player < 11; player++) {
            x.leave(player);
        }
        return x;
    }

    private static void byes() {
        Edge.due("the last of those who had no BYE", paired(after(Edge.five(), "xx")), "0-4 2-3 +1");
        Edge.due("nor won by forfeit, WHITE", paired(after(Edge.five(), "x+")), "1-0 3-4 +2");
        Edge.due("nor won by forfeit, BLACK", paired(after(Edge.five(), "x-")), "2-0 3-4 +1");
        Edge.due("who lost by forfeit can have it", after(Edge.five(), "x-", "xx").bye(1), 1);
        Edge.due("who won over the board can have it", paired(after(Edge.field(3, 2, 1), "1", "0")), "1-2 +0");
        Edge.due("of all, if there is none such: the last", paired(after(Edge.field(3, 2, 1), "x", "x", "x")), "0-1 +2");
        SwissRounds zero = Edge.field(0, 3, 2, 1);
        zero.leave(0);
        Edge.due("of all who are IN, if the one without a BYE is OUT", paired(after(zero, "x", "x", "x")), "1-2 +3");
        SwissRounds out = Edge.five();
        out.leave(0);
        out.leave(1);
        Edge.due("he who is OUT can't have it", paired(out), "4-3 +2");
        SwissRounds dropped = Edge.fiveOpen();
        dropped.drop();
        Edge.due("the BYE of a ROUND that was not is none", paired(dropped), "4-3 1-2 +0");
    }

    private static void whites() {
        Edge.due("the lesser BALANCE: 0 of one behind, 1 of one ahead", paired(after(Edge.field(3, 2, 1), "1")), "2-0 +1");
        Edge.due("the lesser BALANCE: -1 of one ahead, 0 of one behind", paired(after(Edge.field(3, 2, 1), "0")), "1-2 +0");
        Edge.due("alike: LATEST COLOUR BLACK, the other has none: WHITE on BOARD 1", paired(twoAndTwoNew(3)), "4-3 0-5");
        Edge.due("alike: WHITE and none are no BLACK: as the BOARD is", paired(twoAndTwoNew(1)), "0-4 5-1");
        Edge.due("alike, both WHITE and both BLACK: as the BOARD is", paired(after(Edge.four(), "11")), "3-0 1-2");
        Edge.due("alike, without COLOURS: as the BOARD is", paired(after(Edge.four(), "xx")), "3-2 0-1");
    }

    /** PLAYERS 0 and another one of fourAfterTwo(), and 4 and 5, who have nothing yet; by RATING 3 is ahead of 0. */
    private static SwissRounds twoAndTwoNew(int second) {
        SwissRounds x = Edge.fourAfterTwo();
        Edge.order(x, "r");
        x.join(10);
        x.join(5);
        for (int player = 1; player < 4; player++) {
            if (player != second) {
                x.leave(player);
            }
        }
        return x;
    }

    private static void least() {
        Edge.promise("14, least");
        dueAsPair(SwissRounds::least);
        Edge.refused("-9: the two who are IN have MET", TWO_MET, SwissRounds::least, NO_PAIRING);
        Edge.refused("-9: the BYE is given ahead of the twos", STUCK, SwissRounds::least, NO_PAIRING);
        Edge.refused("-9 with 20 ROUNDS", Edge.busy(RoundsEdgesTest::twentyAndMet), SwissRounds::least, NO_PAIRING);
        Edge.asked("with 20 ROUNDS, too: FULL isn't among its words", TWENTY, SwissRounds::least, 0);
        Edge.asked("0 of those who have nothing", FOUR, SwissRounds::least, 0);
        Edge.asked("the only PAIRING that is left", AFTER_TWO, SwissRounds::least, 42);
        Edge.due("the least, not that of the first two", after(Edge.four(), "11").least(), 8);
        Edge.due("of 12", after(Edge.twelve(), "111111").least(), 24);
        Edge.due("three: the COST of two, none of the BYE", after(Edge.field(3, 2, 1), "1").least(), 0);
    }

    private static void dueAsPair(ToIntFunction<SwissRounds> question) {
        Edge.refused("BAD: no PLAYERS", EMPTY, question, BAD);
        Edge.refused("BAD: one PLAYER", ONE, question, BAD);
        Edge.refused("BAD: one of four is IN", ONE_IN, question, BAD);
        Edge.refused("BAD: none of four is IN", NONE_IN, question, BAD);
        Edge.refused("BAD: one is IN, with 20 ROUNDS", Edge.busy(RoundsEdgesTest::twentyWithOneIn), question, BAD);
        Edge.refused("STATE: a ROUND is OPEN", FOUR_OPEN, question, STATE);
        Edge.refused("STATE: the last of 20 is OPEN", TWENTY_OPEN, question, STATE);
    }

    private static void ways() {
        Edge.promise("15, ways");
        dueAsPair(SwissRounds::ways);
        Edge.asked("0: the two who are IN have MET", TWO_MET, SwissRounds::ways, 0);
        Edge.asked("0: the BYE is given ahead of the twos", STUCK, SwissRounds::ways, 0);
        Edge.asked("3 of four", FOUR, SwissRounds::ways, 3);
        Edge.asked("1 that is left", AFTER_TWO, SwissRounds::ways, 1);
        Edge.asked("with 20 ROUNDS, too: FULL isn't among its words", TWENTY, SwissRounds::ways, 1);
        int[] ways = {1, 1, 3, 3, 15, 15, 105, 105, 945, 945, 10395};
        SwissRounds x = Edge.field(5);
        for (int in = 2; in <= 12; in++) {
            x.join(5);
            Edge.due("all who are IN: " + in, x.ways(), ways[in - 2]);
        }
        x.leave(7);
        Edge.due("11 of 12 are IN", x.ways(), 945);
        Edge.due("2 of four who each MET one", after(Edge.four(), "11").ways(), 2);
        Edge.due("by forfeit none have MET", after(Edge.four(), "+x").ways(), 3);
        Edge.due("0 of four who all have MET", after(Edge.fourAfterTwo(), "11").ways(), 0);
    }

    private static void board() {
        Edge.promise("16, board");
        Edge.due("WHITE of the last BOARD", Edge.twelveOpen().board(0, 5, 0), 0);
        Edge.due("BLACK of the last BOARD", Edge.twelveOpen().board(0, 5, 1), 1);
        Edge.due("RESULT: 0 none yet", Edge.twelveOpen().board(0, 5, 2), 0);
        Edge.due("RESULT of a DONE ROUND", Edge.twenty().board(19, 0, 2), 6);
        for (int number : OUTSIDE) {
            Edge.refused("NONE: round " + number, TWELVE_OPEN, x -> x.board(number, 0, 0), NONE);
            Edge.refused("NONE: board " + number, TWELVE_OPEN, x -> x.board(1, number, 0), NONE);
            Edge.refused("NONE: what " + number, TWELVE_OPEN, x -> x.board(1, 0, number), NONE);
        }
        Edge.refused("NONE: no ROUNDS", FOUR, x -> x.board(0, 0, 0), NONE);
        Edge.refused("NONE: as many ROUNDS as there are", TWELVE_OPEN, x -> x.board(2, 0, 0), NONE);
        Edge.refused("NONE: ROUND 20", TWENTY, x -> x.board(20, 0, 0), NONE);
        Edge.refused("NONE: as many BOARDS as there are", FOUR_OPEN, x -> x.board(0, 2, 0), NONE);
        Edge.refused("NONE: BOARD 6 of 6, not the next ROUND's first", TWELVE_OPEN, x -> x.board(0, 6, 0), NONE);
        Edge.refused("NONE: what above 2", FOUR_OPEN, x -> x.board(0, 0, 3), NONE);
        SwissRounds two = twelveOfTwo();
        Edge.due("6 BOARDS of a DONE ROUND stay behind the next PAIRING", Edge.boards(two, 0), "11-10 8-9 7-6 4-5 3-2 0-1");
        Edge.due("their RESULTS, too", Edge.row(6, board -> two.board(0, board, 2)), "1 1 1 1 1 1");
        Edge.due("6 BOARDS of the OPEN ROUND have none yet", Edge.row(6, board -> two.board(1, board, 2)), "0 0 0 0 0 0");
        SwissRounds fewer = Edge.fourOpen();
        fewer.drop();
        Edge.due("NONE: a ROUND that was not", fewer.board(0, 0, 0), NONE);
        fewer.leave(0);
        fewer.pair();
        Edge.due("NONE: a BOARD of a ROUND that was not", fewer.board(0, 1, 0), NONE);
    }

    private static void bye() {
        Edge.promise("17, bye");
        Edge.due("who has it", Edge.fiveOpen().bye(0), 0);
        Edge.due("-5: none", Edge.fourOpen().bye(0), LACKING);
        Edge.due("-5 of the 20th", Edge.twenty().bye(19), LACKING);
        for (int number : OUTSIDE) {
            Edge.refused("NONE: " + number, FIVE_OPEN, x -> x.bye(number), NONE);
        }
        Edge.refused("NONE: no ROUNDS", FOUR, x -> x.bye(0), NONE);
        Edge.refused("NONE: as many as there are", FIVE_OPEN, x -> x.bye(1), NONE);
        Edge.refused("NONE: ROUND 20", TWENTY, x -> x.bye(20), NONE);
        SwissRounds dropped = Edge.fiveOpen();
        dropped.drop();
        Edge.due("NONE: a ROUND that was not", dropped.bye(0), NONE);
        dropped.leave(4);
        dropped.pair();
        Edge.due("-5: the BYE of a ROUND that was not is none", dropped.bye(0), LACKING);
    }

    private static void result() {
        Edge.promise("18, result");
        SwissRounds x = Edge.twelveOpen();
        int[] results = {0, 1, 2, 3, 4, 5, 6, 0};
        for (int i = 1; i < results.length; i++) {
            Edge.due("what it was, then " + results[i], x.result(5, results[i]), results[i - 1]);
            Edge.due("becomes " + results[i], x.board(0, 5, 2), results[i]);
        }
        Edge.due("of one BOARD alone", x.board(0, 4, 2), 0);
        Edge.refused("STATE: no ROUNDS", FOUR, y -> y.result(0, 1), STATE);
        Edge.refused("STATE: all are DONE", AFTER_TWO, y -> y.result(0, 3), STATE);
        Edge.refused("STATE ahead of NONE", AFTER_TWO, y -> y.result(9, 3), STATE);
        Edge.refused("STATE ahead of BAD", AFTER_TWO, y -> y.result(0, 7), STATE);
        for (int number : OUTSIDE) {
            Edge.refused("NONE: board " + number, TWELVE_OPEN, y -> y.result(number, 1), NONE);
            Edge.refused("BAD: " + number, TWELVE_OPEN, y -> y.result(0, number), BAD);
        }
        Edge.refused("NONE: as many BOARDS as there are", FOUR_OPEN, y -> y.result(2, 1), NONE);
        Edge.refused("NONE: BOARD 6 of 6", TWELVE_OPEN, y -> y.result(6, 1), NONE);
        Edge.refused("NONE ahead of BAD", FOUR_OPEN, y -> y.result(2, 7), NONE);
        Edge.refused("BAD: above 6", FOUR_OPEN, y -> y.result(1, 7), BAD);
    }

    /** An OPEN ROUND of four() with these RESULTS. */
    private static SwissRounds fourWith(int first, int second) {
        SwissRounds x = Edge.fourOpen();
        x.result(0, first);
        x.result(1, second);
        return x;
    }

    private static void close() {
        Edge.promise("19, close");
        Edge.refused("STATE: no ROUNDS", FOUR, SwissRounds::close, STATE);
        Edge.refused("STATE: all are DONE", AFTER_TWO, SwissRounds::close, STATE);
        Edge.refused("STATE: every RESULT is lacking", FOUR_OPEN, SwissRounds::close, STATE);
        Edge.refused("STATE: the first RESULT is lacking", Edge.busy(() -> fourWith(0, 1)), SwissRounds::close, STATE);
        Edge.refused("STATE: the last RESULT is lacking", Edge.busy(() -> fourWith(1, 0)), SwissRounds::close, STATE);
        for (int result = 1; result <= 6; result++) {
            Edge.due("RESULT " + result + " isn't lacking", fourWith(1, result).close(), 1);
        }
        SwissRounds x = fourWith(1, 1);
        x.result(0, 0);
        Edge.due("STATE: a RESULT that was taken back is lacking", x.close(), STATE);
        SwissRounds last = reopened(Edge.twenty());
        last.result(0, 6);
        Edge.due("how many are DONE: 20", last.close(), 20);
        SwissRounds again = after(Edge.four(), "11");
        again.pair();
        Edge.due("STATE: RESULTS of the ROUND before are not this one's", again.close(), STATE);
        Edge.due("an OPEN ROUND of 6 BOARDS, the last one lacking", closeOfSix("11111."), STATE);
        Edge.due("an OPEN ROUND of 6 BOARDS", closeOfSix("111111"), 1);
    }

    private static int closeOfSix(String results) {
        SwissRounds x = Edge.twelveOpen();
        Edge.results(x, results);
        return x.close();
    }

    private static void drop() {
        Edge.promise("20, drop");
        Edge.refused("STATE: there is none", FOUR, SwissRounds::drop, STATE);
        Edge.refused("STATE: no PLAYERS", EMPTY, SwissRounds::drop, STATE);
        Edge.due("how many there are: 0", Edge.fourOpen().drop(), 0);
        Edge.due("how many there are: 19", Edge.twenty().drop(), 19);
        Edge.same("an OPEN one was not", FOUR, Edge.busy(() -> dropped(fourWith(1, 3))));
        Edge.same("a DONE one was not", FOUR, Edge.busy(() -> dropped(after(Edge.four(), "11"))));
        Edge.same("an OPEN one behind DONE ones was not", AFTER_TWO, Edge.busy(() -> dropped(open(Edge.fourAfterTwo()))));
        Edge.same("a DONE one behind DONE ones was not", AFTER_TWO, Edge.busy(() -> dropped(after(Edge.fourAfterTwo(), "1+"))));
        Edge.same("a BYE and a win by forfeit were not", Edge.busy(Edge::five), Edge.busy(() -> dropped(after(Edge.five(), "1+"))));
        SwissRounds fewer = dropped(fourWith(1, 4));
        fewer.leave(0);
        fewer.leave(1);
        Edge.round(fewer, "x");
        Edge.due("a BOARD that the next ROUND hasn't makes no POINTS", fewer.told(8), 0);
        SwissRounds all = Edge.fourAfterTwo();
        Edge.due("the last, then the one before", Edge.row(3, i -> all.drop()), "1 0 -3");
        Edge.due("with 19 of 20 there can be one more", reopened(Edge.twenty()).told(2), 20);
    }

    private static SwissRounds open(SwissRounds x) {
        x.pair();
        x.result(0, 1);
        return x;
    }

    private static SwissRounds dropped(SwissRounds x) {
        x.drop();
        return x;
    }

    private static String game(SwissRounds x, int player, int round) {
        return Edge.row(3, what -> x.game(player, round, what));
    }

    private static void game() {
        Edge.promise("21, game");
        Edge.due("WHITE of a DONE ROUND", game(Edge.fourAfterTwo(), 3, 1), "0 0 1");
        Edge.due("BLACK of a DONE ROUND", game(Edge.fourAfterTwo(), 2, 0), "3 1 0");
        Edge.due("of an OPEN one no POINTS: WHITE", game(fourWith(1, 1), 3, 0), "2 0 -5");
        Edge.due("of an OPEN one no POINTS: BLACK", game(fourWith(1, 1), 2, 0), "3 1 -5");
        Edge.due("of an OPEN one no POINTS: a BYE", game(Edge.fiveOpen(), 0, 0), "-5 -5 -5");
        Edge.due("of an OPEN one no POINTS: neither", game(openWithOut(), 0, 0), "-5 -5 -5");
        Edge.due("a BYE", game(after(Edge.five(), "11"), 0, 0), "-5 -5 2");
        Edge.due("neither", game(withLate(), 4, 1), "-5 -5 0");
        String[] points = {"1 2 0", "= 1 1", "0 0 2", "+ 2 0", "- 0 2", "x 0 0"};
        for (String due : points) {
            SwissRounds x = after(Edge.four(), due.charAt(0) + "1");
            Edge.due("POINTS that both made, RESULT " + due.charAt(0), x.game(3, 0, 2) + " " + x.game(2, 0, 2), due.substring(2));
        }
        for (int number : OUTSIDE) {
            Edge.refused("NONE: player " + number, TWELVE_OPEN, x -> x.game(number, 0, 0), NONE);
            Edge.refused("NONE: round " + number, TWELVE_OPEN, x -> x.game(0, number, 0), NONE);
            Edge.refused("NONE: what " + number, TWELVE_OPEN, x -> x.game(0, 0, number), NONE);
            Edge.refused("NONE: what " + number + ", a BYE", FIVE_OPEN, x -> x.game(0, 0, number), NONE);
        }
        Edge.refused("NONE: 12 of a full field", TWELVE_OPEN, x -> x.game(12, 0, 0), NONE);
        Edge.refused("NONE: player yet to come", FOUR_OPEN, x -> x.game(4, 0, 2), NONE);
        Edge.refused("NONE: no ROUNDS", FOUR, x -> x.game(0, 0, 2), NONE);
        Edge.refused("NONE: as many ROUNDS as there are", AFTER_TWO, x -> x.game(0, 2, 2), NONE);
        Edge.refused("NONE: ROUND 20", TWENTY, x -> x.game(0, 20, 2), NONE);
        Edge.refused("NONE: what above 2", FOUR_OPEN, x -> x.game(0, 0, 3), NONE);
        Edge.due("the 20th ROUND", game(Edge.twenty(), 0, 19), "1 0 0");
    }

    private static SwissRounds openWithOut() {
        SwissRounds x = Edge.five();
        x.leave(0);
        x.pair();
        return x;
    }

    private static SwissRounds withLate() {
        SwissRounds x = Edge.fourAfterTwo();
        x.join(5);
        return x;
    }

    public static void main(String[] args) {
        pair();
        least();
        ways();
        board();
        bye();
        result();
        close();
        drop();
        game();
        Edge.end("RoundsEdgesTest");
    }
}
