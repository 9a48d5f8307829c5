import java.util.function.Supplier;

/** The edges of promises 26 to 33: what is too small, too large, empty, full or refused. */
public final class TextsEdgesTest {
    private static final int MAX = Edge.MAX, MIN = Edge.MIN;
    private static final int NONE = -1, BAD = -2, STATE = -3, FULL = -4, LACKING = -5;
    private static final Supplier<SwissRounds> EMPTY = Edge.busy(SwissRounds::new);
    private static final Supplier<SwissRounds> FOUR = Edge.busy(Edge::four);
    private static final Supplier<SwissRounds> FOUR_OPEN = Edge.busy(TextsEdgesTest::fourOfForfeit);
    private static final Supplier<SwissRounds> AFTER_TWO = Edge.busy(Edge::fourAfterTwo);
    private static final Supplier<SwissRounds> TWELVE = Edge.busy(Edge::twelve);
    private static final Supplier<SwissRounds> TWELVE_OPEN = Edge.busy(Edge::twelveOpen);
    private static final Supplier<SwissRounds> FULL_TAPE = () -> {
        SwissRounds x = FOUR.get();
        Edge.feed(x, "1".repeat(38));
        return x;
    };

    /** The second BOARD has a RESULT, which a text must not change if it has a FAULT. */
    private static SwissRounds fourOfForfeit() {
        SwissRounds x = Edge.fourOpen();
        x.result(1, 6);
        return x;
    }

    private static void feed() {
        Edge.promise("26, feed");
        SwissRounds x = new SwissRounds();
        Edge.due("how many it has: 1 .. 40, the least byte and the greatest", Edge.row(40, i -> x.feed(i % 2 == 0 ? 1 : 127)),
            Edge.row(40, i -> i + 1));
        Edge.due("FULL: the 41st", x.feed(1), FULL);
        Edge.due("it has 40", x.told(5), 40);
        Edge.refused("BAD: 0", FOUR, y -> y.feed(0), BAD);
        Edge.refused("BAD: below 0", FOUR, y -> y.feed(-1), BAD);
        Edge.refused("BAD: above 127", FOUR, y -> y.feed(128), BAD);
        Edge.refused("BAD: a letter and 256", FOUR, y -> y.feed('o' + 256), BAD);
        Edge.refused("BAD: the greatest int", FOUR, y -> y.feed(MAX), BAD);
        Edge.refused("BAD: the least int", FOUR, y -> y.feed(MIN), BAD);
        Edge.due("THE TAPE has 40", FULL_TAPE.get().told(5), 40);
        Edge.refused("FULL: 40 there are", FULL_TAPE, y -> y.feed('1'), FULL);
        Edge.refused("BAD ahead of FULL: 0", FULL_TAPE, y -> y.feed(0), BAD);
        Edge.refused("BAD ahead of FULL: 128", FULL_TAPE, y -> y.feed(128), BAD);
        Edge.due("behind THE TAPE's", orderOfFed('k', 'w'), "0 5 4 -5");
    }

    private static String orderOfFed(int... letters) {
        SwissRounds x = new SwissRounds();
        for (int letter : letters) {
            x.feed(letter);
        }
        x.order();
        return Edge.row(letters.length + 2, x::ordered);
    }

    private static void clear() {
        Edge.promise("27, clear");
        Edge.due("0 of an empty one", new SwissRounds().clear(), 0);
        Edge.refused("an empty one stays so", () -> Edge.fourAfterTwo(), SwissRounds::clear, 0);
        Edge.due("40 of a full one", FULL_TAPE.get().clear(), 40);
        SwissRounds x = FULL_TAPE.get();
        x.clear();
        Edge.due("empty then", x.told(5), 0);
        Edge.due("empty then: the next byte is the first", x.feed('g'), 1);
        Edge.due("empty then: what it had isn't read", x.order(), 2);
    }

    private static void results() {
        Edge.promise("28, results");
        Edge.refusedText("STATE: no ROUNDS", FOUR, "11", SwissRounds::results, STATE);
        Edge.refusedText("STATE: all are DONE", AFTER_TWO, "11", SwissRounds::results, STATE);
        Edge.refusedText("STATE ahead of the FAULT", AFTER_TWO, "z", SwissRounds::results, STATE);
        Edge.refusedText("STATE with an empty TAPE", AFTER_TWO, "", SwissRounds::results, STATE);
        Edge.refusedText("FAULT 0: it ends ahead of the first byte", FOUR_OPEN, "", SwissRounds::results, -100);
        Edge.refusedText("FAULT 1: it ends too early", FOUR_OPEN, "1", SwissRounds::results, -101);
        Edge.refusedText("FAULT 2: one too many", FOUR_OPEN, "111", SwissRounds::results, -102);
        Edge.refusedText("FAULT 2: 40 bytes", FOUR_OPEN, "1".repeat(40), SwissRounds::results, -102);
        Edge.refusedText("FAULT 0: the first is no such byte", FOUR_OPEN, "z1", SwissRounds::results, -100);
        Edge.refusedText("FAULT 1: the last is no such byte", FOUR_OPEN, "1z", SwissRounds::results, -101);
        Edge.refusedText("FAULT 0: the first of two, too long", FOUR_OPEN, "2111", SwissRounds::results, -100);
        Edge.refusedText("FAULT 0: the first of two FAULTS", FOUR_OPEN, "zz", SwissRounds::results, -100);
        Edge.refusedText("FAULT 2: no such byte where it should end", FOUR_OPEN, "11z", SwissRounds::results, -102);
        Edge.refusedText("FAULT 5 of 6: it ends too early", TWELVE_OPEN, "11111", SwissRounds::results, -105);
        Edge.refusedText("FAULT 6 of 6: one too many", TWELVE_OPEN, "1111111", SwissRounds::results, -106);
        Edge.refusedText("FAULT 5 of 6: the last is no such byte", TWELVE_OPEN, "11111X", SwissRounds::results, -105);
        char[] others = {1, 127, ' ', '2', 'X', 'z', '3', '/', '*', ',', '<', '>'};
        for (char other : others) {
            Edge.refusedText("FAULT 1: byte " + (int) other, FOUR_OPEN, "=" + other, SwissRounds::results, -101);
        }
        resultsThatAre();
    }

    private static void resultsThatAre() {
        Edge.due("all as it is: none has one", Edge.results(Edge.fourOpen(), ".."), 0);
        Edge.due("the first alone has one", Edge.results(Edge.fourOpen(), "1."), 1);
        Edge.due("the last alone has one", Edge.results(Edge.fourOpen(), ".1"), 1);
        Edge.due("all have one", Edge.results(Edge.fourOpen(), "xx"), 2);
        Edge.due("what THE TAPE had before is ahead in the text", Edge.results(FOUR_OPEN.get(), "11"), -100);
        Edge.due("as it is: the one that it had", Edge.results(fourOfForfeit(), ".."), 1);
        Edge.due("6 of 6", Edge.results(Edge.twelveOpen(), "1=0+-x"), 6);
        SwissRounds next = Edge.twelve();
        Edge.round(next, "111111");
        next.pair();
        Edge.due("none of its 6 BOARDS, though the ROUND before has 6 RESULTS", Edge.results(next, "......"), 0);
        Edge.due("of its own BOARDS alone, not of a ROUND that was not", resultsOfFewer(), 0);
        SwissRounds x = Edge.twelveOpen();
        Edge.results(x, "1=0+-x");
        Edge.due("RESULTS 1 .. 6 by their bytes", Edge.row(6, board -> x.board(0, board, 2)), "1 2 3 4 5 6");
        Edge.results(x, "x.1.=.");
        Edge.due("those with a point are as they were", Edge.row(6, board -> x.board(0, board, 2)), "6 2 1 4 2 6");
        Edge.due("THE TAPE is empty behind it", x.told(5), 0);
    }

    private static int resultsOfFewer() {
        SwissRounds x = fourOfForfeit();
        x.drop();
        x.leave(0);
        x.leave(1);
        x.pair();
        return Edge.results(x, ".");
    }

    private static void order() {
        Edge.promise("29, order");
        Edge.refusedText("FAULT 0: it ends ahead of the first letter", FOUR, "", SwissRounds::order, -100);
        Edge.refusedText("FAULT 0: p is no letter of it: POINTS are ahead", FOUR, "p", SwissRounds::order, -100);
        Edge.refusedText("FAULT 0: a great letter", FOUR, "O", SwissRounds::order, -100);
        Edge.refusedText("FAULT 0: the least byte", FOUR, "\u0001", SwissRounds::order, -100);
        Edge.refusedText("FAULT 0: the greatest byte", FOUR, "\u007f", SwissRounds::order, -100);
        Edge.refusedText("FAULT 1: a letter twice", FOUR, "oo", SwissRounds::order, -101);
        Edge.refusedText("FAULT 7: the first of all twice, as the last", FOUR, "rdgkwbcr", SwissRounds::order, -107);
        Edge.refusedText("FAULT 2: the first of two FAULTS", FOUR, "oco?", SwissRounds::order, -102);
        Edge.refusedText("FAULT 1: the last is no letter", FOUR, "k ", SwissRounds::order, -101);
        Edge.refusedText("FAULT 8: a ninth letter", FOUR, "ocbwkgdro", SwissRounds::order, -108);
        Edge.refusedText("FAULT 8: a ninth byte", FOUR, "ocbwkgdrz", SwissRounds::order, -108);
        Edge.refusedText("FAULT 8: 40 bytes", FOUR, "ocbwkgdr".repeat(5), SwissRounds::order, -108);
        Edge.refusedText("FAULT 0 in an OPEN ROUND", FOUR_OPEN, "x", SwissRounds::order, -100);
        Edge.refusedText("FAULT 0 without PLAYERS", EMPTY, "x", SwissRounds::order, -100);
        String letters = "ocbwkgdr";
        for (int i = 0; i < 8; i++) {
            SwissRounds x = new SwissRounds();
            Edge.due("1 letter: 2 TIE-BREAKS", Edge.order(x, letters.substring(i, i + 1)), 2);
            Edge.due("the letter " + letters.charAt(i), Edge.row(3, x::ordered), "0 " + (i + 1) + " -5");
        }
        SwissRounds all = new SwissRounds();
        Edge.due("8 letters: 9 TIE-BREAKS", Edge.order(all, "rdgkwbco"), 9);
        Edge.due("8 letters", Edge.row(10, all::ordered), "0 8 7 6 5 4 3 2 1 -5");
        Edge.order(all, "d");
        Edge.due("a shorter ORDER has nothing of the one before", Edge.row(10, all::ordered), "0 7 -5 -5 -5 -5 -5 -5 -5 -5");
        Edge.due("THE TAPE is empty behind it", all.told(5), 0);
        Edge.due("in an OPEN ROUND, too", Edge.order(Edge.fourOpen(), "g"), 2);
    }

    private static void ordered() {
        Edge.promise("30, ordered");
        SwissRounds x = new SwissRounds();
        Edge.due("0 .. 4 at first, then -5", Edge.row(7, x::ordered), "0 1 3 4 8 -5 -5");
        Edge.refused("NONE: i below 0", FOUR, y -> y.ordered(-1), NONE);
        Edge.refused("NONE: the least int", FOUR, y -> y.ordered(MIN), NONE);
        Edge.refused("-5: there is none", FOUR, y -> y.ordered(5), LACKING);
        Edge.refused("-5: 9 and above", FOUR, y -> y.ordered(9), LACKING);
        Edge.refused("-5: the greatest int", FOUR, y -> y.ordered(MAX), LACKING);
        Edge.due("without PLAYERS, too", EMPTY.get().ordered(4), 8);
    }

    private static void line() {
        Edge.promise("31, line");
        Edge.due("no DONE ROUND, POINTS 0", Edge.line(Edge.four(), 3), "3 0");
        Edge.due("an OPEN ROUND isn't in it", Edge.line(FOUR_OPEN.get(), 2), "2 0");
        Edge.due("POINTS 1: 0.5", Edge.line(after("=1"), 3), "3 0.5 2=");
        Edge.due("POINTS 2: 1, without a half", Edge.line(after("11"), 3), "3 1 21");
        Edge.due("POINTS 3: 1.5", Edge.line(Edge.fourAfterTwo(), 0), "0 1.5 11 3=");
        Edge.due("a loss", Edge.line(after("11"), 2), "2 0 30");
        Edge.due("WHITE won by forfeit", Edge.line(after("+1"), 3), "3 1 2+");
        Edge.due("BLACK lost by forfeit", Edge.line(after("+1"), 2), "2 0 3-");
        Edge.due("BLACK won by forfeit", Edge.line(after("-1"), 2), "2 1 3+");
        Edge.due("WHITE lost by forfeit", Edge.line(after("-1"), 3), "3 0 2-");
        Edge.due("both forfeited: WHITE", Edge.line(after("x1"), 3), "3 0 2-");
        Edge.due("both forfeited: BLACK", Edge.line(after("x1"), 2), "2 0 3-");
        SwissRounds five = Edge.five();
        Edge.round(five, "11");
        five.join(5);
        Edge.due("a BYE", Edge.line(five, 0), "0 1 B");
        Edge.due("neither", Edge.line(five, 5), "5 0 z");
        SwissRounds twelve = Edge.twelve();
        Edge.round(twelve, "111111");
        Edge.due("numbers 10 and 11", Edge.line(twelve, 10), "10 0 110");
        Edge.due("number 9, of one sign", Edge.line(twelve, 9), "9 0 80");
        Edge.due("the longest: 20 ROUNDS, 87 bytes", Edge.line(longest(), 10), "10 19.5" + " 11+".repeat(19) + " 11=");
        Edge.due("20 ROUNDS, POINTS 0.5", Edge.line(longest(), 11), "11 0.5" + " 10-".repeat(19) + " 10=");
        for (int number : new int[] {-1, 4, MAX, MIN}) {
            Edge.refused("NONE: " + number, AFTER_TWO, x -> x.line(number), NONE);
        }
        Edge.refused("NONE: 12 of a full field", TWELVE, x -> x.line(12), NONE);
        Edge.refused("NONE: no PLAYERS", EMPTY, x -> x.line(0), NONE);
    }

    private static SwissRounds after(String results) {
        SwissRounds x = Edge.four();
        Edge.round(x, results);
        return x;
    }

    /** 10 wins by forfeit 19 times against 11; then they draw. */
    private static SwissRounds longest() {
        SwissRounds x = Edge.twelve();
        for (int player = 0; player < 10; player++) {
            x.leave(player);
        }
        for (int round = 0; round < 20; round++) {
            x.pair();
            x.result(0, round == 19 ? 2 : x.board(round, 0, 0) == 10 ? 4 : 5);
            x.close();
        }
        return x;
    }

    private static void paper() {
        Edge.promise("32, paper");
        Edge.refused("NONE: nothing at first", Edge::four, x -> x.paper(0), NONE);
        SwissRounds x = after("11");
        x.line(3);
        Edge.due("bytes 0 .. 5", Edge.row(6, x::paper), "51 32 49 32 50 49");
        Edge.due("NONE: as many as there are", x.paper(6), NONE);
        for (int number : new int[] {-1, MAX, MIN, 87, 96}) {
            Edge.refused("NONE: " + number, AFTER_TWO, y -> y.paper(number), NONE);
        }
        SwissRounds shorter = Edge.twelve();
        Edge.round(shorter, "======");
        shorter.line(11);
        shorter.line(0);
        Edge.due("the latest LINE", Edge.row(8, shorter::paper), "48 32 48 46 53 32 49 61");
        Edge.due("NONE: behind a LINE that is shorter than the one before", shorter.paper(8), NONE);
        SwissRounds longest = longest();
        longest.line(10);
        Edge.due("the last byte of the longest", longest.paper(86), '=');
        Edge.due("NONE: behind the last byte of the longest", longest.paper(87), NONE);
        longest.drop();
        Edge.due("THE PAPER stays as it was made", longest.paper(86), '=');
    }

    private static void told() {
        Edge.promise("33, told");
        SwissRounds x = FOUR_OPEN.get();
        Edge.due("what 0 .. 8, a ROUND is OPEN", Edge.row(9, x::told), "4 4 1 0 2 2 3 0 0");
        SwissRounds y = AFTER_TWO.get();
        Edge.due("what 0 .. 8, none is: BOARDS -5", Edge.row(9, y::told), "4 4 2 2 -5 2 11 4 8");
        SwissRounds z = Edge.twelveOpen();
        Edge.due("BOARDS of the OPEN one: 6", z.told(4), 6);
        SwissRounds twenty = Edge.twenty();
        twenty.leave(0);
        Edge.due("20 ROUNDS, one is IN", Edge.row(9, twenty::told), "2 1 20 20 -5 0 0 0 0");
        SwissRounds full = Edge.twelve();
        Edge.round(full, "111111");
        Edge.round(full, "======");
        Edge.due("12 PLAYERS, two ROUNDS of 6 BOARDS", Edge.row(9, full::told), "12 12 2 2 -5 0 0 12 24");
        SwissRounds bye = Edge.five();
        Edge.round(bye, "x+");
        Edge.due("POINTS of all: by a BYE and by forfeit", bye.told(8), 4);
        Edge.due("by forfeit none have MET", bye.told(7), 0);
        SwissRounds longest = longest();
        longest.line(10);
        Edge.due("bytes of the longest LINE", longest.told(6), 87);
        for (int number : new int[] {-1, 9, MAX, MIN}) {
            Edge.refused("NONE: " + number, AFTER_TWO, w -> w.told(number), NONE);
        }
    }

    public static void main(String[] args) {
        feed();
        clear();
        results();
        order();
        ordered();
        line();
        paper();
        told();
        Edge.end("TextsEdgesTest");
    }
}
