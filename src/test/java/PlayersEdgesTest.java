import java.util.function.Supplier;

/** The edges of promises 1 to 6: what is too small, too large, empty, full or refused. */
public final class PlayersEdgesTest {
    private static final int MAX = Edge.MAX, MIN = Edge.MIN;
    private static final int NONE = -1, BAD = -2, STATE = -3, FULL = -4;
    private static final Supplier<SwissRounds> FOUR = Edge.busy(Edge::four);
    private static final Supplier<SwissRounds> FOUR_OPEN = Edge.busy(Edge::fourOpen);
    private static final Supplier<SwissRounds> TWELVE = Edge.busy(Edge::twelve);
    private static final Supplier<SwissRounds> TWELVE_OPEN = Edge.busy(Edge::twelveOpen);

    private static void newObject() {
        Edge.promise("1, a new object");
        SwissRounds x = new SwissRounds();
        Edge.due("No PLAYERS: nothing of anything", Edge.row(9, x::told), "0 0 0 0 -5 0 0 0 0");
        Edge.due("No PLAYERS: nobody in the STANDING", x.nth(0), NONE);
        Edge.due("No PLAYERS: no such number", x.rank(0), NONE);
        Edge.due("ORDER of TIE-BREAKS at first", Edge.row(6, x::ordered), "0 1 3 4 8 -5");
        Edge.due("No ROUNDS at first: bye()", x.bye(0), NONE);
        Edge.due("No ROUNDS at first: board()", x.board(0, 0, 0), NONE);
        Edge.due("none is OPEN at first: result()", x.result(0, 1), STATE);
        Edge.due("none is OPEN at first: close()", x.close(), STATE);
        Edge.due("No ROUNDS at first: drop()", x.drop(), STATE);
        Edge.due("THE TAPE is empty at first", x.clear(), 0);
        Edge.due("THE PAPER holds nothing at first", x.paper(0), NONE);
        Edge.due("no IMAGE at first", x.undo(), STATE);
        Edge.due("colours() of no PLAYERS", Edge.row(3, x::colours), "0 0 0");
        for (int list = 0; list < 4; list++) {
            Edge.due("LISTS hold nothing at first: " + list, x.set(list, 0, 1), -11);
        }
        x.join(7);
        Edge.due("another new object has none of this one's PLAYERS", new SwissRounds().told(0), 0);
    }

    private static void lastOf512Calls() {
        Edge.promise("1, 512 calls");
        SwissRounds x = Edge.four();
        for (int call = 4; call < 511; call++) {
            Edge.due("call " + call + " answers as any", x.rate(call % 4, call), call < 8 ? 1000 + 10 * call - 40 : call - 4);
        }
        Edge.due("the 512th call answers as any", x.pair(), 2);
    }

    private static void join() {
        Edge.promise("2, join");
        Edge.due("the first number is 0", new SwissRounds().join(1), 0);
        SwissRounds x = new SwissRounds();
        Edge.due("numbers come 0 .. 11", Edge.row(12, i -> x.join(3000 - i)), "0 1 2 3 4 5 6 7 8 9 10 11");
        Edge.due("RATING 0 is none too small", Edge.field(0).of(0, 0), 0);
        Edge.due("RATING 3000 is none too large", Edge.field(3000).of(0, 0), 3000);
        Edge.due("IN at first", Edge.field(5).of(0, 1), 1);
        Edge.refused("BAD: a RATING below 0", FOUR, y -> y.join(-1), BAD);
        Edge.refused("BAD: the least int", FOUR, y -> y.join(MIN), BAD);
        Edge.refused("BAD: a RATING above 3000", FOUR, y -> y.join(3001), BAD);
        Edge.refused("BAD: the greatest int", FOUR, y -> y.join(MAX), BAD);
        Edge.refused("BAD of the first one", Edge.busy(SwissRounds::new), y -> y.join(3001), BAD);
        Edge.refused("STATE: a ROUND is OPEN", FOUR_OPEN, y -> y.join(1500), STATE);
        Edge.refused("BAD ahead of STATE", FOUR_OPEN, y -> y.join(-1), BAD);
        Edge.refused("FULL: 12 there are", TWELVE, y -> y.join(1500), FULL);
        Edge.refused("BAD ahead of FULL", TWELVE, y -> y.join(3001), BAD);
        Edge.refused("STATE ahead of FULL", TWELVE_OPEN, y -> y.join(1500), STATE);
        Edge.refused("FULL if one of 12 is OUT, too", Edge.busy(PlayersEdgesTest::twelveWithOut), y -> y.join(0), FULL);
        Edge.due("11 there are: one more comes", elevenAndOne(), 11);
        Edge.due("a DONE ROUND is no OPEN one", Edge.fourAfterTwo().join(0), 4);
        Edge.due("he who comes late has no POINTS behind earlier ROUNDS", late(), "0 0 0 0 0 0 0 0 1500");
    }

    private static SwissRounds twelveWithOut() {
        SwissRounds x = Edge.twelve();
        x.leave(3);
        return x;
    }

    private static int elevenAndOne() {
        SwissRounds x = Edge.field(1, 2, 3, 4, 5, 6, 7, 8, 9, 10, 11);
        return x.join(12);
    }

    private static String late() {
        SwissRounds x = Edge.fourAfterTwo();
        x.join(1500);
        return Edge.row(9, which -> x.tie(4, which));
    }

    private static SwissRounds fourWithOut() {
        SwissRounds x = Edge.four();
        x.leave(3);
        return x;
    }

    private static SwissRounds openWithOut() {
        SwissRounds x = fourWithOut();
        x.pair();
        return x;
    }

    private static void leave() {
        Edge.promise("3, leave");
        Edge.due("how many are IN then", Edge.four().leave(0), 3);
        SwissRounds x = Edge.four();
        Edge.due("how many are IN, down to 0", Edge.row(4, x::leave), "3 2 1 0");
        Edge.due("he who is OUT stays a PLAYER", x.told(0), 4);
        Edge.due("he who is OUT stays in the STANDING", Edge.standing(x), "3 2 1 0");
        Edge.refused("NONE: below 0", FOUR, y -> y.leave(-1), NONE);
        Edge.refused("NONE: the number that is yet to come", FOUR, y -> y.leave(4), NONE);
        Edge.refused("NONE: the greatest int", FOUR, y -> y.leave(MAX), NONE);
        Edge.refused("NONE: the least int", FOUR, y -> y.leave(MIN), NONE);
        Edge.refused("NONE: no PLAYERS", Edge.busy(SwissRounds::new), y -> y.leave(0), NONE);
        Edge.refused("NONE: 12 of a full field", TWELVE, y -> y.leave(12), NONE);
        Edge.refused("STATE: he is OUT", Edge.busy(PlayersEdgesTest::fourWithOut), y -> y.leave(3), STATE);
        Edge.refused("STATE: a ROUND is OPEN", FOUR_OPEN, y -> y.leave(0), STATE);
        Edge.refused("NONE ahead of STATE", FOUR_OPEN, y -> y.leave(4), NONE);
        Edge.refused("STATE: he is OUT, and a ROUND is OPEN", Edge.busy(PlayersEdgesTest::openWithOut), y -> y.leave(3), STATE);
        Edge.due("the last of 12", Edge.twelve().leave(11), 11);
    }

    private static void back() {
        Edge.promise("4, back");
        Edge.due("how many are IN then", fourWithOut().back(3), 4);
        SwissRounds x = Edge.four();
        Edge.row(4, x::leave);
        Edge.due("how many are IN, up from 0", Edge.row(4, x::back), "1 2 3 4");
        Edge.refused("NONE: below 0", FOUR, y -> y.back(-1), NONE);
        Edge.refused("NONE: the number that is yet to come", FOUR, y -> y.back(4), NONE);
        Edge.refused("NONE: the greatest int", FOUR, y -> y.back(MAX), NONE);
        Edge.refused("NONE: the least int", FOUR, y -> y.back(MIN), NONE);
        Edge.refused("NONE: no PLAYERS", Edge.busy(SwissRounds::new), y -> y.back(0), NONE);
        Edge.refused("NONE: 12 of a full field", TWELVE, y -> y.back(12), NONE);
        Edge.refused("STATE: he is IN", FOUR, y -> y.back(3), STATE);
        Edge.refused("STATE: a ROUND is OPEN", Edge.busy(PlayersEdgesTest::openWithOut), y -> y.back(3), STATE);
        Edge.refused("NONE ahead of STATE", FOUR_OPEN, y -> y.back(-1), NONE);
        Edge.same("who left and came back is as he was", FOUR, () -> {
            SwissRounds y = FOUR.get();
            y.leave(2);
            y.back(2);
            return y;
        });
    }

    private static void rate() {
        Edge.promise("5, rate");
        Edge.due("what it was", Edge.four().rate(0, 0), 1000);
        Edge.due("0 is none too small", rated(0), 0);
        Edge.due("3000 is none too large", rated(3000), 3000);
        Edge.due("in an OPEN ROUND, too", Edge.fourOpen().rate(3, 5), 1030);
        Edge.due("of one who is OUT, too", fourWithOut().rate(3, 5), 1030);
        Edge.refused("NONE: below 0", FOUR, y -> y.rate(-1, 5), NONE);
        Edge.refused("NONE: the number that is yet to come", FOUR, y -> y.rate(4, 5), NONE);
        Edge.refused("NONE: the greatest int", FOUR, y -> y.rate(MAX, 5), NONE);
        Edge.refused("NONE: the least int", FOUR, y -> y.rate(MIN, 5), NONE);
        Edge.refused("NONE: no PLAYERS", Edge.busy(SwissRounds::new), y -> y.rate(0, 5), NONE);
        Edge.refused("NONE: 12 of a full field", TWELVE, y -> y.rate(12, 5), NONE);
        Edge.refused("BAD: a RATING below 0", FOUR, y -> y.rate(3, -1), BAD);
        Edge.refused("BAD: a RATING above 3000", FOUR, y -> y.rate(3, 3001), BAD);
        Edge.refused("BAD: the greatest int", FOUR, y -> y.rate(3, MAX), BAD);
        Edge.refused("BAD: the least int", FOUR, y -> y.rate(3, MIN), BAD);
        Edge.refused("NONE ahead of BAD", FOUR, y -> y.rate(4, 3001), NONE);
        Edge.refused("BAD in an OPEN ROUND", FOUR_OPEN, y -> y.rate(0, -1), BAD);
        Edge.same("the RATING that it was changes nothing", FOUR, () -> {
            SwissRounds y = FOUR.get();
            y.rate(3, 1030);
            return y;
        });
    }

    private static int rated(int rating) {
        SwissRounds x = Edge.four();
        x.rate(1, rating);
        return x.of(1, 0);
    }

    private static void of() {
        Edge.promise("6, of");
        Edge.due("of one who has nothing", of(Edge.four(), 0), "1000 1 0 0 100 -5 0 0 0");
        Edge.due("what 0 .. 8", of(Edge.fourAfterTwo(), 3), "1030 1 3 2 102 0 0 0 2");
        Edge.due("BALANCE below 0 is told below 100", of(Edge.fourAfterTwo(), 2), "1020 1 0 2 98 1 0 0 2");
        SwissRounds twelve = Edge.twelve();
        Edge.round(twelve, "111111");
        Edge.due("of the first of 12, who has MET one", of(twelve, 0), "100 1 2 1 101 0 0 0 1");
        Edge.due("of the last of 12, who has MET one", of(twelve, 11), "1200 1 2 1 101 0 0 0 1");
        Edge.due("OUT", of(fourWithOut(), 3), "1030 0 0 0 100 -5 0 0 0");
        Edge.refused("NONE: player below 0", FOUR, y -> y.of(-1, 8), NONE);
        Edge.refused("NONE: player yet to come", FOUR, y -> y.of(4, 0), NONE);
        Edge.refused("NONE: player, the greatest int", FOUR, y -> y.of(MAX, 0), NONE);
        Edge.refused("NONE: player, the least int", FOUR, y -> y.of(MIN, 0), NONE);
        Edge.refused("NONE: no PLAYERS", Edge.busy(SwissRounds::new), y -> y.of(0, 0), NONE);
        Edge.refused("NONE: what below 0", FOUR, y -> y.of(1, -1), NONE);
        Edge.refused("NONE: what above 8", FOUR, y -> y.of(1, 9), NONE);
        Edge.refused("NONE: what, the greatest int", FOUR, y -> y.of(1, MAX), NONE);
        Edge.refused("NONE: what, the least int", FOUR, y -> y.of(1, MIN), NONE);
        ofOpenAndForfeits();
    }

    private static String of(SwissRounds x, int player) {
        return Edge.row(9, what -> x.of(player, what));
    }

    private static SwissRounds fiveWith(String results, boolean done) {
        SwissRounds x = Edge.fiveOpen();
        Edge.results(x, results);
        if (done) {
            x.close();
        }
        return x;
    }

    private static void ofOpenAndForfeits() {
        Edge.due("an OPEN ROUND isn't PLAYED", of(fiveWith("1+", false), 4), "1900 1 0 0 100 -5 0 0 0");
        Edge.due("of an OPEN ROUND no wins by forfeit", of(fiveWith("1+", false), 1), "1600 1 0 0 100 -5 0 0 0");
        Edge.due("of an OPEN ROUND no BYES", of(fiveWith("1+", false), 0), "1500 1 0 0 100 -5 0 0 0");
        Edge.due("WHITE won", of(fiveWith("1+", true), 4), "1900 1 2 1 101 0 0 0 1");
        Edge.due("BLACK lost", of(fiveWith("1+", true), 3), "1800 1 0 1 99 1 0 0 1");
        Edge.due("WHITE lost", of(fiveWith("0+", true), 4), "1900 1 0 1 101 0 0 0 1");
        Edge.due("BLACK won", of(fiveWith("0+", true), 3), "1800 1 2 1 99 1 0 0 1");
        Edge.due("WHITE drew", of(fiveWith("=+", true), 4), "1900 1 1 1 101 0 0 0 1");
        Edge.due("BLACK drew", of(fiveWith("=+", true), 3), "1800 1 1 1 99 1 0 0 1");
        Edge.due("a BYE is neither PLAYED nor a forfeit", of(fiveWith("1+", true), 0), "1500 1 2 0 100 -5 1 0 0");
        Edge.due("WHITE's win by forfeit isn't PLAYED", of(fiveWith("1+", true), 1), "1600 1 2 0 100 -5 0 1 0");
        Edge.due("BLACK's loss by forfeit", of(fiveWith("1+", true), 2), "1700 1 0 0 100 -5 0 0 0");
        Edge.due("BLACK's win by forfeit", of(fiveWith("1-", true), 2), "1700 1 2 0 100 -5 0 1 0");
        Edge.due("WHITE's loss by forfeit", of(fiveWith("1-", true), 1), "1600 1 0 0 100 -5 0 0 0");
        Edge.due("both forfeited: WHITE", of(fiveWith("1x", true), 1), "1600 1 0 0 100 -5 0 0 0");
        Edge.due("both forfeited: BLACK", of(fiveWith("1x", true), 2), "1700 1 0 0 100 -5 0 0 0");
        SwissRounds x = fiveWith("11", true);
        x.pair();
        Edge.due("4 has BLACK in the OPEN ROUND", x.board(1, 0, 1), 4);
        Edge.due("LATEST COLOUR is WHITE still: the OPEN ROUND isn't PLAYED", x.of(4, 5), 0);
    }

    public static void main(String[] args) {
        newObject();
        lastOf512Calls();
        join();
        leave();
        back();
        rate();
        of();
        Edge.end("PlayersEdgesTest");
    }
}
