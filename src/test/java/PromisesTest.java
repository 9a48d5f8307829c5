/** For each promise of ../shared/DOC.md: ordinary calls, the edges that it names, and wrong arguments. */
public final class PromisesTest {
    private static final int MAX = Integer.MAX_VALUE, MIN = Integer.MIN_VALUE;
    private static int wrong = 0;
    private static int promise = 0;
    private static SwissRounds x;

    private static void due(String call, int got, int want) {
        if (got != want) {
            wrong++;
            System.out.println("promise " + promise + ": " + call + " answered " + got + ", due is " + want);
        }
    }

    /** A new object with PLAYERS of these RATINGS. */
    private static void field(int... ratings) {
        x = new SwissRounds();
        for (int rating : ratings) {
            x.join(rating);
        }
    }

    /** THE STANDING at first: 3, 2, 1, 0. BOARDS of ROUND 0: 3 with WHITE against 2, 0 with WHITE against 1. */
    private static void four() {
        field(1000, 1010, 1020, 1030);
    }

    /** THE STANDING at first: 4, 3, 2, 1, 0. ROUND 0: 4 with WHITE against 3, 1 with WHITE against 2, the BYE is 0's. */
    private static void five() {
        field(1500, 1600, 1700, 1800, 1900);
    }

    private static void feed(String text) {
        for (char letter : text.toCharArray()) {
            x.feed(letter);
        }
    }

    private static int results(String text) {
        feed(text);
        return x.results();
    }

    private static int order(String text) {
        feed(text);
        return x.order();
    }

    private static void round(String results) {
        due("pair()", x.pair(), results.length());
        due("results()", results(results), results.length());
        x.close();
    }

    /** As four(); 3 beat 2 and 0 beat 1, then 3 and 0 drew and 1 beat 2: POINTS 3, 2, 0, 3. */
    private static void fourAfterTwo() {
        four();
        round("11");
        due("pair()", x.pair(), 2);
        dueBoard(1, 0, 3, 0);
        dueBoard(1, 1, 1, 2);
        x.result(0, 2);
        x.result(1, 1);
        x.close();
    }

    private static void dueBoard(int round, int board, int white, int black) {
        due("board(" + round + ", " + board + ", 0)", x.board(round, board, 0), white);
        due("board(" + round + ", " + board + ", 1)", x.board(round, board, 1), black);
    }

    private static void dueStanding(int... players) {
        for (int i = 0; i < players.length; i++) {
            due("nth(" + i + ")", x.nth(i), players[i]);
        }
    }

    private static void dueOf(int player, int... whats) {
        for (int what = 0; what < whats.length; what++) {
            due("of(" + player + ", " + what + ")", x.of(player, what), whats[what]);
        }
    }

    private static void dueTies(int player, int... ties) {
        for (int which = 0; which < ties.length; which++) {
            due("tie(" + player + ", " + which + ")", x.tie(player, which), ties[which]);
        }
    }

    private static void dueLine(int player, String line) {
        due("line(" + player + ")", x.line(player), line.length());
        for (int i = 0; i < line.length(); i++) {
            due("paper(" + i + ")", x.paper(i), line.charAt(i));
        }
        due("paper(" + line.length() + ")", x.paper(line.length()), -1);
    }

    private static void promise1() {
        x = new SwissRounds();
        int[] counts = {0, 0, 0, 0, -5, 0, 0, 0, 0};
        for (int what = 0; what < counts.length; what++) {
            due("told(" + what + ")", x.told(what), counts[what]);
        }
        due("nth(0)", x.nth(0), -1);
        due("ordered(0)", x.ordered(0), 0);
        due("ordered(1)", x.ordered(1), 1);
        due("ordered(2)", x.ordered(2), 3);
        due("ordered(3)", x.ordered(3), 4);
        due("ordered(4)", x.ordered(4), 8);
        due("ordered(5)", x.ordered(5), -5);
        due("undo()", x.undo(), -3);
        due("NONE", SwissRounds.NONE, -1);
        due("BAD", SwissRounds.BAD, -2);
        due("STATE", SwissRounds.STATE, -3);
        due("FULL", SwissRounds.FULL, -4);
    }

    private static void promise2() {
        x = new SwissRounds();
        due("join(-1)", x.join(-1), -2);
        due("join(3001)", x.join(3001), -2);
        due("join(MIN)", x.join(MIN), -2);
        due("join(0)", x.join(0), 0);
        due("join(3000)", x.join(3000), 1);
        due("of(1, 1)", x.of(1, 1), 1);
        x.pair();
        due("join(-1) in an OPEN ROUND", x.join(-1), -2);
        due("join(1) in an OPEN ROUND", x.join(1), -3);
        x.drop();
        for (int player = 2; player < 12; player++) {
            due("join(5)", x.join(5), player);
        }
        due("join(3001) of a full field", x.join(3001), -2);
        due("join(5) of a full field", x.join(5), -4);
        x.pair();
        due("join(5), full and OPEN", x.join(5), -3);
        due("told(0)", x.told(0), 12);
    }

    private static void promise3() {
        four();
        due("leave(4)", x.leave(4), -1);
        due("leave(-1)", x.leave(-1), -1);
        due("leave(3)", x.leave(3), 3);
        due("leave(3) again", x.leave(3), -3);
        due("of(3, 1)", x.of(3, 1), 0);
        due("nth(0): OUT is in the STANDING", x.nth(0), 3);
        x.pair();
        dueBoard(0, 0, 2, 1);
        due("bye(0)", x.bye(0), 0);
        due("leave(2) in an OPEN ROUND", x.leave(2), -3);
        due("leave(9) in an OPEN ROUND", x.leave(9), -1);
        due("told(1)", x.told(1), 3);
    }

    private static void promise4() {
        four();
        due("back(4)", x.back(4), -1);
        due("back(MIN)", x.back(MIN), -1);
        due("back(0), who is IN", x.back(0), -3);
        x.leave(0);
        x.leave(1);
        due("back(0)", x.back(0), 3);
        due("of(0, 1)", x.of(0, 1), 1);
        due("of(1, 1)", x.of(1, 1), 0);
        x.pair();
        due("back(1) in an OPEN ROUND", x.back(1), -3);
        x.drop();
        due("back(1)", x.back(1), 4);
    }

    private static void promise5() {
        four();
        due("rate(4, 1)", x.rate(4, 1), -1);
        due("rate(4, -1)", x.rate(4, -1), -1);
        due("rate(0, -1)", x.rate(0, -1), -2);
        due("rate(0, 3001)", x.rate(0, 3001), -2);
        due("of(0, 0)", x.of(0, 0), 1000);
        due("rate(0, 3000)", x.rate(0, 3000), 1000);
        due("rate(3, 0)", x.rate(3, 0), 1030);
        dueStanding(0, 2, 1, 3);
        x.pair();
        due("rate(0, 0) in an OPEN ROUND", x.rate(0, 0), 3000);
        dueStanding(2, 1, 0, 3);
    }

    private static void promise6() {
        five();
        due("of(5, 0)", x.of(5, 0), -1);
        due("of(-1, 0)", x.of(-1, 0), -1);
        due("of(0, 9)", x.of(0, 9), -1);
        due("of(0, -1)", x.of(0, -1), -1);
        dueOf(0, 1500, 1, 0, 0, 100, -5, 0, 0, 0);
        x.pair();
        results("1+");
        dueOf(0, 1500, 1, 0, 0, 100, -5, 0, 0, 0);
        dueOf(1, 1600, 1, 0, 0, 100, -5, 0, 0, 0);
        x.close();
        dueOf(0, 1500, 1, 2, 0, 100, -5, 1, 0, 0);
        dueOf(1, 1600, 1, 2, 0, 100, -5, 0, 1, 0);
        dueOf(2, 1700, 1, 0, 0, 100, -5, 0, 0, 0);
        dueOf(3, 1800, 1, 0, 1, 99, 1, 0, 0, 1);
        dueOf(4, 1900, 1, 2, 1, 101, 0, 0, 0, 1);
        x.leave(4);
        round("-x");
        due("of(4, 1)", x.of(4, 1), 0);
        fourAfterTwo();
        dueOf(0, 1000, 1, 3, 2, 100, 1, 0, 0, 2);
        dueOf(2, 1020, 1, 0, 2, 98, 1, 0, 0, 2);
        dueOf(3, 1030, 1, 3, 2, 102, 0, 0, 0, 2);
    }

    private static void promise7() {
        fourAfterTwo();
        due("tie(4, 0)", x.tie(4, 0), -1);
        due("tie(-1, 0)", x.tie(-1, 0), -1);
        due("tie(0, 9)", x.tie(0, 9), -1);
        due("tie(0, -1)", x.tie(0, -1), -1);
        dueTies(0, 3, 5, 3, 7, 1, 1, 5, 1, 1000);
        dueTies(1, 2, 3, 3, 0, 1, 1, 2, 0, 1010);
        dueTies(2, 0, 5, 3, 0, 0, 2, 0, 0, 1020);
        dueTies(3, 3, 3, 3, 3, 1, 0, 5, 1, 1030);
        five();
        round("-1");
        dueTies(0, 2, 0, 0, 0, 0, 0, 2, 0, 1500);
        dueTies(3, 2, 0, 0, 0, 0, 0, 2, 0, 1800);
        dueTies(4, 0, 0, 0, 0, 0, 0, 0, 0, 1900);
        dueTies(1, 2, 0, 0, 0, 1, 0, 2, 0, 1600);
        dueTies(2, 0, 2, 0, 0, 0, 1, 0, 0, 1700);
        x.pair();
        results("11");
        dueTies(3, 2, 0, 0, 0, 0, 0, 2, 0, 1800);
    }

    private static void promise8() {
        fourAfterTwo();
        due("rank(0)", x.rank(0), 0);
        due("rank(1)", x.rank(1), 2);
        due("rank(2)", x.rank(2), 3);
        due("rank(3)", x.rank(3), 1);
        due("rank(4)", x.rank(4), -1);
        due("rank(-1)", x.rank(-1), -1);
        due("rank(MAX)", x.rank(MAX), -1);
    }

    private static void promise9() {
        fourAfterTwo();
        dueStanding(0, 3, 1, 2);
        due("nth(4)", x.nth(4), -1);
        due("nth(-1)", x.nth(-1), -1);
        field(7, 7, 7);
        dueStanding(0, 1, 2);
        field(7, 9, 7, 8);
        dueStanding(1, 3, 0, 2);
        due("nth(MIN)", x.nth(MIN), -1);
    }

    private static void promise10() {
        fourAfterTwo();
        due("explain(0, 3, 0)", x.explain(0, 3, 0), 1);
        due("explain(0, 3, 1)", x.explain(0, 3, 1), 2);
        due("explain(3, 0, 0)", x.explain(3, 0, 0), 1);
        due("explain(3, 0, 1)", x.explain(3, 0, 1), -2);
        due("explain(1, 0, 0)", x.explain(1, 0, 0), 0);
        due("explain(1, 0, 1)", x.explain(1, 0, 1), -1);
        due("explain(0, 0, 0)", x.explain(0, 0, 0), -1);
        due("explain(4, 0, 0)", x.explain(4, 0, 0), -1);
        due("explain(0, 4, 0)", x.explain(0, 4, 0), -1);
        due("explain(0, 3, 2)", x.explain(0, 3, 2), -1);
        due("explain(0, 3, -1)", x.explain(0, 3, -1), -1);
        order("r");
        due("explain(0, 3, 0) by RATING", x.explain(0, 3, 0), 8);
        due("explain(0, 3, 1) by RATING", x.explain(0, 3, 1), -30);
        field(7, 7, 7);
        due("explain(0, 2, 0)", x.explain(0, 2, 0), -5);
        due("explain(0, 2, 1)", x.explain(0, 2, 1), 2);
        due("explain(2, 0, 1)", x.explain(2, 0, 1), -2);
    }

    private static void promise11() {
        fourAfterTwo();
        due("met(3, 2)", x.met(3, 2), 0);
        due("met(2, 3)", x.met(2, 3), 0);
        due("met(0, 3)", x.met(0, 3), 1);
        due("met(0, 2)", x.met(0, 2), -5);
        due("met(0, 0)", x.met(0, 0), -1);
        due("met(0, 4)", x.met(0, 4), -1);
        due("met(-1, 0)", x.met(-1, 0), -1);
        x.pair();
        results("11");
        due("met(0, 2) in an OPEN ROUND", x.met(0, 2), -5);
        x.drop();
        round("+-");
        due("met(0, 2) after a forfeit", x.met(0, 2), -5);
        round("x=");
        due("met(0, 2) after a draw", x.met(0, 2), 3);
        due("met(3, 1), both forfeited", x.met(3, 1), -5);
    }

    private static void promise12() {
        fourAfterTwo();
        due("cost(0, 3)", x.cost(0, 3), -5);
        due("cost(0, 2)", x.cost(0, 2), 31);
        due("cost(1, 3)", x.cost(1, 3), 11);
        due("cost(3, 1)", x.cost(3, 1), 11);
        due("cost(1, 1)", x.cost(1, 1), -1);
        due("cost(4, 0)", x.cost(4, 0), -1);
        due("cost(0, -1)", x.cost(0, -1), -1);
        four();
        due("cost(0, 3) at first", x.cost(0, 3), 0);
        round("11");
        due("cost(0, 3), both WHITE and 2", x.cost(0, 3), 4);
        due("cost(1, 2), both BLACK and 0", x.cost(1, 2), 4);
        due("cost(0, 2)", x.cost(0, 2), 20);
        x.leave(2);
        due("cost(0, 2), who is OUT", x.cost(0, 2), 20);
        four();
        round("+=");
        due("cost(2, 3) after a forfeit", x.cost(2, 3), 20);
        due("cost(3, 0), one without a COLOUR", x.cost(3, 0), 10);
    }

    private static void promise13() {
        x = new SwissRounds();
        due("pair() of none", x.pair(), -2);
        x.join(1);
        due("pair() of one", x.pair(), -2);
        x.join(2);
        due("pair() of two", x.pair(), 1);
        due("bye(0)", x.bye(0), -5);
        due("pair() in an OPEN ROUND", x.pair(), -3);
        results("1");
        x.close();
        due("pair() of two who have MET", x.pair(), -9);
        due("told(2)", x.told(2), 1);
        five();
        due("pair() of five", x.pair(), 2);
        dueBoard(0, 0, 4, 3);
        dueBoard(0, 1, 1, 2);
        due("bye(0)", x.bye(0), 0);
        due("board(0, 0, 2)", x.board(0, 0, 2), 0);
        colourRules();
        byeRules();
        twentyRounds();
    }

    private static void colourRules() {
        fourAfterTwo();
        x.pair();
        dueBoard(2, 0, 2, 0);
        dueBoard(2, 1, 1, 3);
        field(3000, 2000, 1000);
        round("1");
        dueBoard(0, 0, 0, 1);
        round("1");
        dueBoard(1, 0, 2, 0);
        due("bye(1)", x.bye(1), 1);
        due("of(0, 5)", x.of(0, 5), 1);
        x.join(500);
        x.leave(1);
        x.leave(2);
        x.pair();
        dueBoard(2, 0, 0, 3);
        four();
        round("10");
        due("pair()", x.pair(), 2);
        dueBoard(1, 0, 1, 3);
        dueBoard(1, 1, 2, 0);
        results("11");
        x.close();
        x.join(3000);
        order("r");
        x.leave(1);
        x.leave(2);
        x.leave(3);
        due("rank(4), ahead of 0", x.rank(4), x.rank(0) - 1);
        x.pair();
        dueBoard(2, 0, 0, 4);
    }

    private static void byeRules() {
        five();
        round("11");
        due("bye(0)", x.bye(0), 0);
        round("++");
        due("bye(1)", x.bye(1), 2);
        round("++");
        due("bye(2)", x.bye(2), 1);
        dueBoard(2, 0, 3, 0);
        dueBoard(2, 1, 2, 4);
        field(3, 2, 1);
        round("x");
        due("bye(0)", x.bye(0), 2);
        round("x");
        due("bye(1)", x.bye(1), 1);
        round("x");
        due("bye(2)", x.bye(2), 0);
        round("x");
        due("bye(3): all had one", x.bye(3), 2);
    }

    private static void twentyRounds() {
        field(3000, 2000);
        for (int i = 0; i < 20; i++) {
            round("x");
        }
        due("pair() with 20 ROUNDS", x.pair(), -4);
        due("least() with 20 ROUNDS", x.least(), 0);
        x.leave(0);
        due("pair() of one with 20 ROUNDS", x.pair(), -2);
        x.back(0);
        x.drop();
        due("pair() after drop()", x.pair(), 1);
    }

    private static void promise14() {
        x = new SwissRounds();
        due("least() of none", x.least(), -2);
        four();
        due("least()", x.least(), 0);
        x.pair();
        due("least() in an OPEN ROUND", x.least(), -3);
        results("11");
        x.close();
        due("least()", x.least(), 8);
        x.leave(0);
        x.leave(1);
        due("least() of two who have MET", x.least(), -9);
        x.leave(2);
        due("least() of one", x.least(), -2);
        fourAfterTwo();
        due("least()", x.least(), 42);
        due("told(2)", x.told(2), 2);
    }

    private static void promise15() {
        x = new SwissRounds();
        due("ways() of none", x.ways(), -2);
        int[] ways = {1, 1, 3, 3, 15, 15, 105, 105, 945, 945, 10395};
        x.join(1);
        due("ways() of one", x.ways(), -2);
        for (int i = 0; i < ways.length; i++) {
            x.join(1);
            due("ways() of " + (i + 2), x.ways(), ways[i]);
        }
        x.pair();
        due("ways() in an OPEN ROUND", x.ways(), -3);
        four();
        round("11");
        due("ways()", x.ways(), 2);
        x.leave(0);
        x.leave(1);
        due("ways() of two who have MET", x.ways(), 0);
    }

    private static void promise16() {
        four();
        due("board(0, 0, 0) of no ROUND", x.board(0, 0, 0), -1);
        x.pair();
        due("board(0, 0, 0)", x.board(0, 0, 0), 3);
        due("board(0, 0, 1)", x.board(0, 0, 1), 2);
        due("board(0, 0, 2)", x.board(0, 0, 2), 0);
        due("board(0, 1, 0)", x.board(0, 1, 0), 0);
        due("board(0, 1, 1)", x.board(0, 1, 1), 1);
        x.result(1, 5);
        due("board(0, 1, 2)", x.board(0, 1, 2), 5);
        due("board(0, 2, 0)", x.board(0, 2, 0), -1);
        due("board(0, -1, 0)", x.board(0, -1, 0), -1);
        due("board(1, 0, 0)", x.board(1, 0, 0), -1);
        due("board(-1, 0, 0)", x.board(-1, 0, 0), -1);
        due("board(0, 0, 3)", x.board(0, 0, 3), -1);
        due("board(0, 0, -1)", x.board(0, 0, -1), -1);
        due("board(MAX, MAX, MAX)", x.board(MAX, MAX, MAX), -1);
    }

    private static void promise17() {
        five();
        due("bye(0) of no ROUND", x.bye(0), -1);
        x.pair();
        due("bye(0)", x.bye(0), 0);
        due("bye(1)", x.bye(1), -1);
        due("bye(-1)", x.bye(-1), -1);
        x.drop();
        due("bye(0) after drop()", x.bye(0), -1);
        x.leave(4);
        x.pair();
        due("bye(0) of four", x.bye(0), -5);
    }

    private static void promise18() {
        four();
        due("result(0, 1), none OPEN", x.result(0, 1), -3);
        due("result(9, 9), none OPEN", x.result(9, 9), -3);
        x.pair();
        due("result(2, 9)", x.result(2, 9), -1);
        due("result(-1, 1)", x.result(-1, 1), -1);
        due("result(0, 7)", x.result(0, 7), -2);
        due("result(0, -1)", x.result(0, -1), -2);
        int before = 0;
        for (int result : new int[] {1, 2, 3, 4, 5, 6, 0}) {
            due("result(1, " + result + ")", x.result(1, result), before);
            due("board(0, 1, 2)", x.board(0, 1, 2), result);
            before = result;
        }
        due("board(0, 0, 2)", x.board(0, 0, 2), 0);
        results("11");
        x.close();
        due("result(0, 1) of a DONE ROUND", x.result(0, 1), -3);
    }

    private static void promise19() {
        four();
        due("close(), none OPEN", x.close(), -3);
        x.pair();
        due("close() without RESULTS", x.close(), -3);
        x.result(1, 6);
        due("close(), one lacking", x.close(), -3);
        x.result(0, 6);
        due("close()", x.close(), 1);
        due("close() again", x.close(), -3);
        due("told(3)", x.told(3), 1);
        x.pair();
        due("close(): RESULTS of before don't stand", x.close(), -3);
        results("11");
        due("close()", x.close(), 2);
        due("told(8)", x.told(8), 4);
    }

    private static void promise20() {
        four();
        due("drop() of none", x.drop(), -3);
        x.pair();
        due("drop() of an OPEN one", x.drop(), 0);
        due("told(4)", x.told(4), -5);
        round("11");
        due("told(8)", x.told(8), 4);
        x.pair();
        due("drop()", x.drop(), 1);
        due("told(3)", x.told(3), 1);
        due("drop() of a DONE one", x.drop(), 0);
        due("told(8)", x.told(8), 0);
        due("met(3, 2)", x.met(3, 2), -5);
        due("drop()", x.drop(), -3);
        x.pair();
        due("board(0, 0, 2): RESULTS are gone", x.board(0, 0, 2), 0);
        five();
        round("1+");
        due("drop()", x.drop(), 0);
        dueOf(0, 1500, 1, 0, 0, 100, -5, 0, 0, 0);
        dueOf(1, 1600, 1, 0, 0, 100, -5, 0, 0, 0);
        dueOf(4, 1900, 1, 0, 0, 100, -5, 0, 0, 0);
        due("direct(4, 3)", x.direct(4, 3), 0);
        dueTies(4, 0, 0, 0, 0, 0, 0, 0, 0, 1900);
    }

    private static void dueGame(int player, int round, int... whats) {
        for (int what = 0; what < whats.length; what++) {
            due("game(" + player + ", " + round + ", " + what + ")", x.game(player, round, what), whats[what]);
        }
    }

    private static void promise21() {
        five();
        due("game(0, 0, 0) of no ROUND", x.game(0, 0, 0), -1);
        x.pair();
        results("=-");
        dueGame(4, 0, 3, 0, -5);
        dueGame(0, 0, -5, -5, -5);
        x.close();
        dueGame(4, 0, 3, 0, 1);
        dueGame(3, 0, 4, 1, 1);
        dueGame(1, 0, 2, 0, 0);
        dueGame(2, 0, 1, 1, 2);
        dueGame(0, 0, -5, -5, 2);
        due("game(0, 0, 3)", x.game(0, 0, 3), -1);
        due("game(0, 0, -1)", x.game(0, 0, -1), -1);
        due("game(0, 1, 0)", x.game(0, 1, 0), -1);
        due("game(0, -1, 0)", x.game(0, -1, 0), -1);
        due("game(5, 0, 0)", x.game(5, 0, 0), -1);
        due("game(-1, 0, 0)", x.game(-1, 0, 0), -1);
        x.join(1);
        dueGame(5, 0, -5, -5, 0);
        x.leave(5);
        round("x0");
        dueGame(5, 1, -5, -5, 0);
        dueGame(x.board(1, 0, 0), 1, x.board(1, 0, 1), 0, 0);
        dueGame(x.board(1, 1, 1), 1, x.board(1, 1, 0), 1, 2);
        dueGame(x.board(1, 1, 0), 1, x.board(1, 1, 1), 0, 0);
    }

    private static void promise22() {
        fourAfterTwo();
        due("direct(3, 2)", x.direct(3, 2), 2);
        due("direct(2, 3)", x.direct(2, 3), 0);
        due("direct(0, 3)", x.direct(0, 3), 1);
        due("direct(1, 2)", x.direct(1, 2), 2);
        due("direct(0, 2)", x.direct(0, 2), 0);
        due("direct(0, 0)", x.direct(0, 0), -1);
        due("direct(0, 4)", x.direct(0, 4), -1);
        due("direct(-1, 4)", x.direct(-1, 4), -1);
        x.pair();
        results("1+");
        due("direct(2, 0) in an OPEN ROUND", x.direct(2, 0), 0);
        x.close();
        due("direct(2, 0)", x.direct(2, 0), 2);
        due("direct(1, 3) by forfeit", x.direct(1, 3), 0);
    }

    private static void promise23() {
        four();
        due("average(0, 0) without any", x.average(0, 0), 0);
        due("average(0, 1) without any", x.average(0, 1), 1);
        fourAfterTwo();
        due("average(0, 0)", x.average(0, 0), 1020);
        due("average(0, 1)", x.average(0, 1), 1);
        x.rate(3, 1031);
        due("average(0, 0)", x.average(0, 0), 2041);
        due("average(0, 1)", x.average(0, 1), 2);
        x.rate(3, 0);
        x.rate(1, 0);
        due("average(0, 0) of noughts", x.average(0, 0), 0);
        due("average(0, 1) of noughts", x.average(0, 1), 1);
        due("average(0, 2)", x.average(0, 2), -1);
        due("average(0, -1)", x.average(0, -1), -1);
        due("average(4, 0)", x.average(4, 0), -1);
        due("average(-1, 1)", x.average(-1, 1), -1);
        due("average(4, 2)", x.average(4, 2), -1);
    }

    private static void promise24() {
        fourAfterTwo();
        due("alike(0)", x.alike(0), 2);
        due("alike(1)", x.alike(1), 2);
        due("alike(2)", x.alike(2), 1);
        due("alike(3)", x.alike(3), 1);
        due("alike(4)", x.alike(4), -1);
        due("alike(-1)", x.alike(-1), -1);
        x = new SwissRounds();
        due("alike(0) of none", x.alike(0), -1);
    }

    private static void promise25() {
        fourAfterTwo();
        due("colours(0)", x.colours(0), 1);
        due("colours(1)", x.colours(1), 1);
        due("colours(2)", x.colours(2), 2);
        due("colours(3)", x.colours(3), -1);
        due("colours(-1)", x.colours(-1), -1);
        four();
        round("11");
        due("colours(0)", x.colours(0), 2);
        due("colours(1)", x.colours(1), 2);
        due("colours(2)", x.colours(2), 0);
    }

    private static void promise26() {
        x = new SwissRounds();
        due("feed(0)", x.feed(0), -2);
        due("feed(128)", x.feed(128), -2);
        due("feed(-1)", x.feed(-1), -2);
        due("feed(MIN)", x.feed(MIN), -2);
        due("feed(1)", x.feed(1), 1);
        due("feed(127)", x.feed(127), 2);
        for (int i = 3; i <= 40; i++) {
            due("feed(49)", x.feed(49), i);
        }
        due("feed(49), the 41st", x.feed(49), -4);
        due("feed(0), the 41st", x.feed(0), -2);
        due("told(5)", x.told(5), 40);
    }

    private static void promise27() {
        x = new SwissRounds();
        due("clear()", x.clear(), 0);
        feed("abc");
        due("clear()", x.clear(), 3);
        due("told(5)", x.told(5), 0);
        due("feed(111)", x.feed('o'), 1);
        due("order()", x.order(), 2);
    }

    private static void promise28() {
        four();
        due("results(), none OPEN", results("11"), -3);
        due("told(5)", x.told(5), 0);
        x.pair();
        due("results() of nothing", results(""), -100);
        due("results() too short", results("1"), -101);
        due("results() too long", results("111"), -102);
        due("results() of another letter", results("1z1"), -101);
        due("results() of another letter", results("z"), -100);
        due("results() of a letter beyond", results("11z"), -102);
        due("board(0, 0, 2): nothing was done", x.board(0, 0, 2), 0);
        due("told(5)", x.told(5), 0);
        due("results(.1)", results(".1"), 1);
        due("results(..)", results(".."), 1);
        due("board(0, 0, 2)", x.board(0, 0, 2), 0);
        due("board(0, 1, 2)", x.board(0, 1, 2), 1);
        String letters = "1=0+-x";
        for (int i = 0; i < letters.length(); i++) {
            due("results(." + letters.charAt(i) + ")", results("=" + letters.charAt(i)), 2);
            due("board(0, 1, 2)", x.board(0, 1, 2), i + 1);
        }
        due("board(0, 0, 2)", x.board(0, 0, 2), 2);
        due("results(1.)", results("1."), 2);
        due("board(0, 1, 2)", x.board(0, 1, 2), 6);
    }

    private static void promise29() {
        fourAfterTwo();
        due("order() of nothing", order(""), -100);
        due("order(p)", order("p"), -100);
        due("order(op)", order("op"), -101);
        due("order(obo)", order("obo"), -102);
        due("order() of nine", order("ocbwkgdrr"), -108);
        due("ordered(2): nothing was done", x.ordered(2), 3);
        due("told(5)", x.told(5), 0);
        due("order(ocbwkgdr)", order("ocbwkgdr"), 9);
        for (int i = 0; i < 9; i++) {
            due("ordered(" + i + ")", x.ordered(i), i);
        }
        due("order(r)", order("r"), 2);
        dueStanding(3, 0, 1, 2);
        due("told(5)", x.told(5), 0);
        due("order(k)", order("k"), 2);
        dueStanding(0, 3, 1, 2);
        due("order(dr)", order("dr"), 3);
        dueStanding(3, 0, 1, 2);
        due("order(d)", order("d"), 2);
        dueStanding(0, 3, 1, 2);
        x.pair();
        due("order(o) in an OPEN ROUND", order("o"), 2);
    }

    private static void promise30() {
        x = new SwissRounds();
        due("ordered(-1)", x.ordered(-1), -1);
        due("ordered(MIN)", x.ordered(MIN), -1);
        due("ordered(2)", x.ordered(2), 3);
        due("ordered(5)", x.ordered(5), -5);
        due("ordered(MAX)", x.ordered(MAX), -5);
        order("gk");
        due("ordered(0)", x.ordered(0), 0);
        due("ordered(1)", x.ordered(1), 6);
        due("ordered(2)", x.ordered(2), 5);
        due("ordered(3)", x.ordered(3), -5);
    }

    private static void promise31() {
        fourAfterTwo();
        dueLine(0, "0 1.5 11 3=");
        dueLine(2, "2 0 30 10");
        dueLine(1, "1 1 00 21");
        x.pair();
        results("1+");
        dueLine(0, "0 1.5 11 3=");
        x.close();
        dueLine(0, "0 1.5 11 3= 20");
        dueLine(1, "1 2 00 21 3+");
        dueLine(3, "3 1.5 21 0= 1-");
        due("line(4)", x.line(4), -1);
        due("line(-1)", x.line(-1), -1);
        due("told(6): THE PAPER is as it was", x.told(6), 14);
        field(1, 1, 1);
        dueLine(1, "1 0");
        round("=");
        dueLine(0, "0 0.5 1=");
        dueLine(2, "2 1 B");
        x.leave(2);
        round2("x");
        dueLine(2, "2 1 B z");
        longLines();
    }

    /** 0 and 2 have not MET, so they are put together when 1 is away. */
    private static void round2(String results) {
        x.leave(1);
        x.back(2);
        x.join(1);
        x.leave(2);
        round(results);
        dueLine(0, "0 0.5 1= 3-");
        dueLine(3, "3 0 z 0-");
    }

    private static void longLines() {
        field(1, 1, 1, 1, 1, 1, 1, 1, 1, 1, 1, 1);
        for (int player = 0; player < 10; player++) {
            x.leave(player);
        }
        StringBuilder line = new StringBuilder("10 20");
        for (int i = 0; i < 20; i++) {
            x.pair();
            x.result(0, x.board(i, 0, 0) == 10 ? 4 : 5);
            x.close();
            line.append(" 11+");
        }
        dueLine(10, line.toString());
        due("line(11)", x.line(11), 4 + 80);
    }

    private static void promise32() {
        four();
        due("paper(0) at first", x.paper(0), -1);
        x.line(3);
        due("paper(0)", x.paper(0), '3');
        due("paper(1)", x.paper(1), ' ');
        due("paper(2)", x.paper(2), '0');
        due("paper(3)", x.paper(3), -1);
        due("paper(-1)", x.paper(-1), -1);
        due("paper(MAX)", x.paper(MAX), -1);
        due("line(9)", x.line(9), -1);
        due("paper(0)", x.paper(0), '3');
    }

    private static void promise33() {
        five();
        x.leave(4);
        x.leave(3);
        x.pair();
        x.feed('a');
        x.line(0);
        int[] open = {5, 3, 1, 0, 1, 1, 3, 0, 0};
        for (int what = 0; what < open.length; what++) {
            due("told(" + what + ")", x.told(what), open[what]);
        }
        x.clear();
        results("=");
        x.close();
        x.line(2);
        int[] done = {5, 3, 1, 1, -5, 0, 8, 1, 4};
        for (int what = 0; what < done.length; what++) {
            due("told(" + what + ")", x.told(what), done[what]);
        }
        due("told(9)", x.told(9), -1);
        due("told(-1)", x.told(-1), -1);
        due("told(MIN)", x.told(MIN), -1);
    }

    private static void promise34() {
        x = new SwissRounds();
        due("list(-1, 1)", x.list(-1, 1), -1);
        due("list(4, 1)", x.list(4, 1), -1);
        due("list(4, -1)", x.list(4, -1), -1);
        due("list(0, 21)", x.list(0, 21), -2);
        due("list(0, -1)", x.list(0, -1), -14);
        due("list(0, MIN)", x.list(0, MIN), -14);
        due("get(0, 0): nothing was done", x.get(0, 0), -2000000000);
        due("set(0, 0, 1): nothing was done", x.set(0, 0, 1), -11);
        due("list(0, 20)", x.list(0, 20), 1);
        x.set(0, 19, 7);
        due("list(0, 21)", x.list(0, 21), -2);
        due("get(0, 19)", x.get(0, 19), 7);
        due("list(0, 20) again", x.list(0, 20), 1);
        due("get(0, 19)", x.get(0, 19), 0);
        due("list(3, 0)", x.list(3, 0), 1);
        due("set(3, 0, 1)", x.set(3, 0, 1), -13);
    }

    private static void promise35() {
        x = new SwissRounds();
        x.list(1, 3);
        x.list(2, 3);
        due("set(-1, 0, 5)", x.set(-1, 0, 5), -1);
        due("set(4, 0, 5)", x.set(4, 0, 5), -1);
        due("set(0, 0, 5)", x.set(0, 0, 5), -11);
        due("set(1, 3, 5)", x.set(1, 3, 5), -13);
        due("set(1, -1, 5)", x.set(1, -1, 5), -13);
        due("set(1, MAX, 5)", x.set(1, MAX, 5), -13);
        due("set(1, 2, MIN)", x.set(1, 2, MIN), 1);
        due("set(2, 0, 9)", x.set(2, 0, 9), 1);
        due("get(1, 2)", x.get(1, 2), MIN);
        due("get(1, 0)", x.get(1, 0), 0);
        due("get(2, 0)", x.get(2, 0), 9);
    }

    private static void promise36() {
        x = new SwissRounds();
        due("get(0, 0), nothing there", x.get(0, 0), -2000000000);
        x.list(0, 2);
        x.set(0, 1, -7);
        due("get(0, 0)", x.get(0, 0), 0);
        due("get(0, 1)", x.get(0, 1), -7);
        due("get(0, 2)", x.get(0, 2), -2000000000);
        due("get(0, -1)", x.get(0, -1), -2000000000);
        due("get(-1, 0)", x.get(-1, 0), -2000000000);
        due("get(4, 0)", x.get(4, 0), -2000000000);
    }

    private static void dueList(int list, int... values) {
        for (int i = 0; i < values.length; i++) {
            due("get(" + list + ", " + i + ")", x.get(list, i), values[i]);
        }
    }

    private static void promise37() {
        four();
        due("lay(4, 0)", x.lay(4, 0), -1);
        due("lay(-1, 0)", x.lay(-1, 0), -1);
        due("lay(0, 0)", x.lay(0, 0), -11);
        x.list(0, 5);
        due("lay(0, 0)", x.lay(0, 0), 4);
        dueList(0, 3, 2, 1, 0, 0);
        due("lay(0, 1)", x.lay(0, 1), 4);
        dueList(0, 3, 3, 2, 1, 0);
        x.list(0, 5);
        due("lay(0, 3)", x.lay(0, 3), -13);
        dueList(0, 0, 0, 0, 3, 2);
        x.list(0, 5);
        due("lay(0, -1)", x.lay(0, -1), -13);
        due("lay(0, 5)", x.lay(0, 5), -13);
        due("lay(0, MAX)", x.lay(0, MAX), -13);
        due("lay(0, MIN)", x.lay(0, MIN), -13);
        dueList(0, 0, 0, 0, 0, 0);
        x = new SwissRounds();
        x.list(0, 0);
        due("lay(0, 0) of none", x.lay(0, 0), 0);
    }

    private static void promise38() {
        four();
        due("judge(4, 0)", x.judge(4, 0), -1);
        due("judge(-1, 0)", x.judge(-1, 0), -1);
        due("judge(0, 0)", x.judge(0, 0), -11);
        x.list(0, 6);
        due("judge(0, 0)", x.judge(0, 0), 0);
        x.lay(0, 0);
        due("judge(0, 0)", x.judge(0, 0), -5);
        x.set(0, 2, 9);
        due("judge(0, 0)", x.judge(0, 0), 2);
        x.lay(0, 1);
        due("judge(0, 1)", x.judge(0, 1), -5);
        due("judge(0, 0)", x.judge(0, 0), 1);
        x.lay(0, 4);
        due("judge(0, 4)", x.judge(0, 4), 102);
        due("judge(0, 5)", x.judge(0, 5), 0);
        due("judge(0, 6)", x.judge(0, 6), 100);
        due("judge(0, -1)", x.judge(0, -1), 100);
        due("judge(0, MIN)", x.judge(0, MIN), 100);
        due("judge(0, MAX)", x.judge(0, MAX), 100);
        x = new SwissRounds();
        x.list(0, 0);
        due("judge(0, 0) of none", x.judge(0, 0), -5);
    }

    private static void promise39() {
        four();
        due("image()", x.image(), 0);
        x.pair();
        due("image() in an OPEN ROUND", x.image(), 1);
        x.drop();
        due("undo(): the later IMAGE", x.undo(), 1);
        results("11");
        x.close();
        due("image()", x.image(), 1);
    }

    private static void promise40() {
        four();
        due("undo() without an IMAGE", x.undo(), -3);
        x.leave(2);
        x.image();
        x.join(3000);
        x.back(2);
        x.rate(0, 5);
        order("k");
        round("11");
        x.feed('1');
        x.line(3);
        x.list(0, 1);
        due("undo()", x.undo(), 0);
        int[] counts = {4, 3, 0, 0, -5, 1, 6, 0, 0};
        for (int what = 0; what < counts.length; what++) {
            due("told(" + what + ")", x.told(what), counts[what]);
        }
        due("of(2, 1)", x.of(2, 1), 0);
        due("of(0, 0)", x.of(0, 0), 1000);
        due("ordered(1)", x.ordered(1), 1);
        due("ordered(4)", x.ordered(4), 8);
        due("get(0, 0)", x.get(0, 0), 0);
        dueStanding(3, 2, 1, 0);
        x.clear();
        undoOfAnOpenRound();
    }

    private static void undoOfAnOpenRound() {
        x.pair();
        x.result(0, 2);
        due("image()", x.image(), 1);
        x.result(0, 1);
        x.close();
        x.drop();
        x.back(2);
        x.join(3000);
        x.leave(3);
        due("pair(): another one", x.pair(), 2);
        due("bye(0)", x.bye(0), -5);
        due("undo()", x.undo(), 1);
        due("told(0)", x.told(0), 4);
        due("told(4)", x.told(4), 1);
        due("board(0, 0, 0)", x.board(0, 0, 0), 3);
        due("board(0, 0, 1)", x.board(0, 0, 1), 1);
        due("board(0, 0, 2)", x.board(0, 0, 2), 2);
        due("bye(0)", x.bye(0), 0);
        due("close()", x.close(), 1);
        due("of(3, 2)", x.of(3, 2), 1);
        due("undo() again", x.undo(), 1);
        due("told(3)", x.told(3), 0);
        due("of(3, 2)", x.of(3, 2), 0);
    }

    private static void check(int number) {
        promise = number;
        switch (number) {
            case 1 -> promise1();
            case 2 -> promise2();
            case 3 -> promise3();
            case 4 -> promise4();
            case 5 -> promise5();
            case 6 -> promise6();
            case 7 -> promise7();
            case 8 -> promise8();
            case 9 -> promise9();
            case 10 -> promise10();
            case 11 -> promise11();
            case 12 -> promise12();
            case 13 -> promise13();
            case 14 -> promise14();
            case 15 -> promise15();
            case 16 -> promise16();
            case 17 -> promise17();
            case 18 -> promise18();
            case 19 -> promise19();
            case 20 -> promise20();
            default -> checkLater(number);
        }
    }

    private static void checkLater(int number) {
        switch (number) {
            case 21 -> promise21();
            case 22 -> promise22();
            case 23 -> promise23();
            case 24 -> promise24();
            case 25 -> promise25();
            case 26 -> promise26();
            case 27 -> promise27();
            case 28 -> promise28();
            case 29 -> promise29();
            case 30 -> promise30();
            case 31 -> promise31();
            case 32 -> promise32();
            case 33 -> promise33();
            case 34 -> promise34();
            case 35 -> promise35();
            case 36 -> promise36();
            case 37 -> promise37();
            case 38 -> promise38();
            case 39 -> promise39();
            default -> promise40();
        }
    }

    public static void main(String[] args) {
        for (int number = 1; number <= 40; number++) {
            check(number);
        }
        System.out.println(wrong == 0 ? "PromisesTest: all answers are as due" : "PromisesTest: " + wrong + " answers are not as due");
        if (wrong != 0) {
            System.exit(1);
        }
    }
}
