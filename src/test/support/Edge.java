import java.util.ArrayList;
import java.util.LinkedHashMap;
import java.util.List;
import java.util.Map;
import java.util.function.Supplier;
import java.util.function.ToIntFunction;

/**
 * For the tests of edges: checks of single cases, each named for the sentence of ../shared/DOC.md that it holds, and
 * fields of PLAYERS to call them on.
 */
final class Edge {
    static final int MAX = Integer.MAX_VALUE, MIN = Integer.MIN_VALUE;
    static final int NO_VALUE = -2000000000;

    /** With the longest of the fields below, no object comes to its 512th call. */
    private static final int QUESTIONS_OF_ONE_OBJECT = 200;

    private static String promise = "";
    private static int checks = 0;
    private static int wrong = 0;

    private Edge() {
    }

    static void promise(String name) {
        promise = name;
    }

    static void due(String sentence, int got, int want) {
        checks++;
        if (got != want) {
            wrong++;
            System.out.println("promise " + promise + ": " + sentence + ": answered " + got + ", due is " + want);
        }
    }

    static void due(String sentence, String got, String want) {
        checks++;
        if (!got.equals(want)) {
            wrong++;
            System.out.println("promise " + promise + ": " + sentence + ": " + got + ", due is " + want);
        }
    }

    /** A call that is refused: its answer, and that nothing is changed. */
    static void refused(String sentence, Supplier<SwissRounds> made, ToIntFunction<SwissRounds> call, int want) {
        asked(sentence, made, call, want);
    }

    /** A call that asks something: its answer, and that nothing is changed. */
    static void asked(String sentence, Supplier<SwissRounds> made, ToIntFunction<SwissRounds> call, int want) {
        due(sentence, call.applyAsInt(made.get()), want);
        same(sentence + ": nothing is changed", made, () -> {
            SwissRounds x = made.get();
            call.applyAsInt(x);
            return x;
        });
    }

    /** A text that is refused: nothing is changed, but THE TAPE is empty. */
    static void refusedText(String sentence, Supplier<SwissRounds> made, String text, ToIntFunction<SwissRounds> call, int want) {
        Supplier<SwissRounds> emptied = () -> {
            SwissRounds x = made.get();
            x.clear();
            return x;
        };
        ToIntFunction<SwissRounds> fed = x -> {
            feed(x, text);
            return call.applyAsInt(x);
        };
        refused(sentence, emptied, fed, want);
        SwissRounds x = emptied.get();
        fed.applyAsInt(x);
        due(sentence + ": THE TAPE is empty", x.told(5), 0);
    }

    /** That no call tells one of these from the other. */
    static void same(String sentence, Supplier<SwissRounds> one, Supplier<SwissRounds> other) {
        SwissRounds x = one.get();
        Map<String, ToIntFunction<SwissRounds>> questions = questions(x.told(0), x.told(2));
        for (Map.Entry<String, ToIntFunction<SwissRounds>> first : openings().entrySet()) {
            List<String> left = new ArrayList<>(questions.keySet());
            for (int from = 0; from < left.size(); from += QUESTIONS_OF_ONE_OBJECT) {
                List<String> some = left.subList(from, Math.min(left.size(), from + QUESTIONS_OF_ONE_OBJECT));
                SwissRounds a = one.get();
                SwissRounds b = other.get();
                due(sentence + ": " + first.getKey(), first.getValue().applyAsInt(b), first.getValue().applyAsInt(a));
                for (String question : some) {
                    ToIntFunction<SwissRounds> asked = questions.get(question);
                    due(sentence + ": " + first.getKey() + ", " + question, asked.applyAsInt(b), asked.applyAsInt(a));
                }
            }
        }
    }

    /** What shows THE IMAGE, the bytes of THE TAPE and what the next ROUND will be, which no question tells. */
    private static Map<String, ToIntFunction<SwissRounds>> openings() {
        Map<String, ToIntFunction<SwissRounds>> all = new LinkedHashMap<>();
        all.put("at once", x -> 0);
        all.put("undo()", SwissRounds::undo);
        all.put("results()", SwissRounds::results);
        all.put("order()", SwissRounds::order);
        all.put("pair()", SwissRounds::pair);
        all.put("close()", SwissRounds::close);
        all.put("drop()", SwissRounds::drop);
        return all;
    }

    private static Map<String, ToIntFunction<SwissRounds>> questions(int players, int rounds) {
        Map<String, ToIntFunction<SwissRounds>> all = new LinkedHashMap<>();
        all.put("least()", SwissRounds::least);
        all.put("ways()", SwissRounds::ways);
        for (int i = 0; i <= 9; i++) {
            int what = i;
            all.put("told(" + what + ")", x -> x.told(what));
            all.put("ordered(" + what + ")", x -> x.ordered(what));
            all.put("colours(" + what + ")", x -> x.colours(what));
        }
        for (int p = 0; p <= players; p++) {
            askPlayer(all, p);
            askTwos(all, p);
        }
        for (int r = 0; r <= rounds; r++) {
            askRound(all, r, players);
        }
        for (int i = 0; i <= 21; i++) {
            int place = i;
            all.put("paper(" + place + ")", x -> x.paper(place));
            for (int l = 0; l < 4; l++) {
                int list = l;
                all.put("get(" + list + ", " + place + ")", x -> x.get(list, place));
            }
        }
        return all;
    }

    private static void askPlayer(Map<String, ToIntFunction<SwissRounds>> all, int player) {
        all.put("rank(" + player + ")", x -> x.rank(player));
        all.put("nth(" + player + ")", x -> x.nth(player));
        all.put("alike(" + player + ")", x -> x.alike(player));
        all.put("average(" + player + ", 0)", x -> x.average(player, 0));
        all.put("average(" + player + ", 1)", x -> x.average(player, 1));
        for (int i = 0; i <= 8; i++) {
            int what = i;
            all.put("of(" + player + ", " + what + ")", x -> x.of(player, what));
            all.put("tie(" + player + ", " + what + ")", x -> x.tie(player, what));
        }
    }

    private static void askTwos(Map<String, ToIntFunction<SwissRounds>> all, int one) {
        for (int q = 0; q < one; q++) {
            int other = q;
            all.put("met(" + one + ", " + other + ")", x -> x.met(one, other));
            all.put("cost(" + one + ", " + other + ")", x -> x.cost(one, other));
            all.put("direct(" + one + ", " + other + ")", x -> x.direct(one, other));
            all.put("direct(" + other + ", " + one + ")", x -> x.direct(other, one));
            all.put("explain(" + one + ", " + other + ", 0)", x -> x.explain(one, other, 0));
            all.put("explain(" + one + ", " + other + ", 1)", x -> x.explain(one, other, 1));
        }
    }

    private static void askRound(Map<String, ToIntFunction<SwissRounds>> all, int round, int players) {
        all.put("bye(" + round + ")", x -> x.bye(round));
        for (int i = 0; i <= 2; i++) {
            int what = i;
            for (int b = 0; b <= 6; b++) {
                int board = b;
                all.put("board(" + round + ", " + board + ", " + what + ")", x -> x.board(round, board, what));
            }
            for (int p = 0; p < players; p++) {
                int player = p;
                all.put("game(" + player + ", " + round + ", " + what + ")", x -> x.game(player, round, what));
            }
        }
    }

    static void feed(SwissRounds x, String text) {
        for (char letter : text.toCharArray()) {
            x.feed(letter);
        }
    }

    static int results(SwissRounds x, String text) {
        feed(x, text);
        return x.results();
    }

    static int order(SwissRounds x, String text) {
        feed(x, text);
        return x.order();
    }

    static void round(SwissRounds x, String results) {
        x.pair();
        results(x, results);
        x.close();
    }

    static SwissRounds field(int... ratings) {
        SwissRounds x = new SwissRounds();
        for (int rating : ratings) {
            x.join(rating);
        }
        return x;
    }

    /** The STANDING: 3, 2, 1, 0. ROUND 0 will be: 3 with WHITE against 2, 0 with WHITE against 1. */
    static SwissRounds four() {
        return field(1000, 1010, 1020, 1030);
    }

    static SwissRounds fourOpen() {
        SwissRounds x = four();
        x.pair();
        return x;
    }

    /** 3 beat 2 and 0 beat 1, then 3 (WHITE) and 0 drew and 1 (WHITE) beat 2. POINTS of 0 .. 3: 3, 2, 0, 3. */
    static SwissRounds fourAfterTwo() {
        SwissRounds x = four();
        round(x, "11");
        round(x, "=1");
        return x;
    }

    /** The STANDING: 4, 3, 2, 1, 0. ROUND 0 will be: 4 with WHITE against 3, 1 with WHITE against 2, the BYE is 0's. */
    static SwissRounds five() {
        return field(1500, 1600, 1700, 1800, 1900);
    }

    static SwissRounds fiveOpen() {
        SwissRounds x = five();
        x.pair();
        return x;
    }

    /** The STANDING: 11, 10, .. 0. */
    static SwissRounds twelve() {
        return field(100, 200, 300, 400, 500, 600, 700, 800, 900, 1000, 1100, 1200);
    }

    static SwissRounds twelveOpen() {
        SwissRounds x = twelve();
        x.pair();
        return x;
    }

    /** Two who never MET and 20 DONE ROUNDS. */
    static SwissRounds twenty() {
        SwissRounds x = field(3000, 2000);
        for (int i = 0; i < 20; i++) {
            round(x, "x");
        }
        return x;
    }

    /** Something is in all that a call could change by mistake: THE IMAGE (another one), THE TAPE, THE PAPER, LISTS. */
    static Supplier<SwissRounds> busy(Supplier<SwissRounds> made) {
        return () -> {
            SwissRounds x = made.get();
            x.image();
            x.rate(0, 1999);
            x.line(0);
            x.list(1, 3);
            x.set(1, 2, 77);
            x.list(2, 20);
            x.set(2, 0, -7);
            feed(x, "oc");
            return x;
        };
    }

    static String line(SwissRounds x, int player) {
        int length = x.line(player);
        StringBuilder text = new StringBuilder();
        for (int i = 0; i < length; i++) {
            text.append((char) x.paper(i));
        }
        return text.toString();
    }

    /** The values of the places of a LIST, from 0 until one isn't there. */
    static String row(SwissRounds x, int list) {
        StringBuilder text = new StringBuilder();
        for (int i = 0; x.get(list, i) != NO_VALUE; i++) {
            text.append(i == 0 ? "" : " ").append(x.get(list, i));
        }
        return text.toString();
    }

    static String standing(SwissRounds x) {
        StringBuilder text = new StringBuilder();
        for (int i = 0; x.nth(i) >= 0; i++) {
            text.append(i == 0 ? "" : " ").append(x.nth(i));
        }
        return text.toString();
    }

    /** Of each BOARD of a ROUND WHITE and BLACK, and him with the BYE behind a plus, if one has it. */
    static String boards(SwissRounds x, int round) {
        StringBuilder text = new StringBuilder();
        for (int i = 0; x.board(round, i, 0) >= 0; i++) {
            text.append(i == 0 ? "" : " ").append(x.board(round, i, 0)).append('-').append(x.board(round, i, 1));
        }
        return x.bye(round) < 0 ? text.toString() : text.append(" +").append(x.bye(round)).toString();
    }

    /** Answers to a question for numbers from 0 on. */
    static String row(int count, java.util.function.IntUnaryOperator question) {
        StringBuilder text = new StringBuilder();
        for (int i = 0; i < count; i++) {
            text.append(i == 0 ? "" : " ").append(question.applyAsInt(i));
        }
        return text.toString();
    }

    static void end(String test) {
        System.out.println(test + ": " + checks + " checks, " + wrong + " wrong");
        if (wrong != 0) {
            System.exit(1);
        }
    }
}
