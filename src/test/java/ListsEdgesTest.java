import java.util.function.Consumer;
import java.util.function.Supplier;

/** The edges of promises 34 to 40: what is too small, too large, empty, full or refused. */
public final class ListsEdgesTest {
    private static final int MAX = Edge.MAX, MIN = Edge.MIN, NO_VALUE = Edge.NO_VALUE;
    private static final int NONE = -1, BAD = -2, STATE = -3, LACKING = -5;
    private static final int NOTHING = -11, BEYOND = -13, BELOW = -14;
    private static final int[] NO_LISTS = {-1, 4, MAX, MIN};
    /** LIST 1 has three places, LIST 2 has 20; LISTS 0 and 3 hold nothing. */
    private static final Supplier<SwissRounds> FOUR = Edge.busy(Edge::four);

    /** The STANDING 3, 2, 1, 0 and LIST 0 of so many places, each -1. */
    private static SwissRounds four(int places) {
        SwissRounds x = Edge.four();
        x.list(0, places);
        for (int i = 0; i < places; i++) {
            x.set(0, i, -1);
        }
        return x;
    }

    private static void list() {
        Edge.promise("34, list");
        SwissRounds x = Edge.four();
        Edge.due("LISTS 0 .. 3", Edge.row(4, list -> x.list(list, list)), "1 1 1 1");
        Edge.due("a row of none", Edge.row(x, 0), "");
        Edge.due("a row of three, all 0", Edge.row(x, 3), "0 0 0");
        Edge.due("a row of 20", x.list(1, 20), 1);
        Edge.due("a row of 20, all 0", Edge.row(x, 1), "0 0 0 0 0 0 0 0 0 0 0 0 0 0 0 0 0 0 0 0");
        for (int list : NO_LISTS) {
            Edge.refused("NONE: list " + list, FOUR, y -> y.list(list, 2), NONE);
            Edge.refused("NONE ahead of BAD: list " + list, FOUR, y -> y.list(list, 21), NONE);
            Edge.refused("NONE ahead of BELOW: list " + list, FOUR, y -> y.list(list, -1), NONE);
        }
        Edge.refused("BAD: 21", FOUR, y -> y.list(1, 21), BAD);
        Edge.refused("BAD: the greatest int", FOUR, y -> y.list(1, MAX), BAD);
        Edge.refused("BELOW: -1", FOUR, y -> y.list(1, -1), BELOW);
        Edge.refused("BELOW: the least int", FOUR, y -> y.list(1, MIN), BELOW);
        Edge.refused("BAD: of one that holds nothing", FOUR, y -> y.list(0, 21), BAD);
        Edge.refused("BELOW: of one that holds nothing", FOUR, y -> y.list(3, -1), BELOW);
        Edge.due("another row: all 0 again", anew(4, 4), "0 0 0 0");
        Edge.due("another row, longer: all 0", anew(2, 4), "0 0 0 0");
        Edge.due("another row, shorter: no more places", anew(4, 2), "0 0");
        Edge.due("another row of none", anew(20, 0), "");
        SwissRounds beside = Edge.four();
        beside.list(0, 20);
        beside.set(0, 19, 5);
        beside.list(2, 1);
        beside.set(2, 0, 6);
        beside.list(1, 20);
        Edge.due("the LIST before it is as it was", beside.get(0, 19), 5);
        Edge.due("the LIST behind it is as it was", beside.get(2, 0), 6);
        Edge.due("an empty row isn't NOTHING", set(four(0), 0, 0, 5), BEYOND);
        SwissRounds shortened = four(4);
        shortened.list(0, 1);
        shortened.list(0, 4);
        Edge.due("what a longer row had doesn't come back", Edge.row(shortened, 0), "0 0 0 0");
    }

    private static String anew(int places, int then) {
        SwissRounds x = four(places);
        x.list(0, then);
        return Edge.row(x, 0);
    }

    private static int set(SwissRounds x, int list, int i, int v) {
        return x.set(list, i, v);
    }

    private static void set() {
        Edge.promise("35, set");
        SwissRounds x = four(20);
        Edge.due("the first place", x.set(0, 0, MAX), 1);
        Edge.due("the last place of 20", x.set(0, 19, MIN), 1);
        Edge.due("the greatest int", x.get(0, 0), MAX);
        Edge.due("the least int", x.get(0, 19), MIN);
        Edge.due("the places beside them are as they were", x.get(0, 1) + x.get(0, 18), -2);
        Edge.due("a value that reads as no such place", set(x, 0, 5, NO_VALUE), 1);
        for (int list : NO_LISTS) {
            Edge.refused("NONE: list " + list, FOUR, y -> y.set(list, 0, 5), NONE);
            Edge.refused("NONE ahead of BEYOND: list " + list, FOUR, y -> y.set(list, -1, 5), NONE);
        }
        Edge.refused("NOTHING: none is held", FOUR, y -> y.set(0, 0, 5), NOTHING);
        Edge.refused("NOTHING ahead of BEYOND: below 0", FOUR, y -> y.set(3, -1, 5), NOTHING);
        Edge.refused("NOTHING ahead of BEYOND: above 20", FOUR, y -> y.set(3, 21, 5), NOTHING);
        Edge.refused("BEYOND: place -1", FOUR, y -> y.set(1, -1, 5), BEYOND);
        Edge.refused("BEYOND: place -1, not the last of the LIST before", FOUR, y -> y.set(2, -18, 5), BEYOND);
        Edge.refused("BEYOND: as many places as there are", FOUR, y -> y.set(1, 3, 5), BEYOND);
        Edge.refused("BEYOND: place 20 of 20", FOUR, y -> y.set(2, 20, 5), BEYOND);
        Edge.refused("BEYOND: place 20, not the first of the next LIST", FOUR, y -> y.set(1, 20, 5), BEYOND);
        Edge.refused("BEYOND: the greatest int", FOUR, y -> y.set(1, MAX, 5), BEYOND);
        Edge.refused("BEYOND: the least int", FOUR, y -> y.set(1, MIN, 5), BEYOND);
        Edge.refused("BEYOND: a row of none", () -> four(0), y -> y.set(0, 0, 5), BEYOND);
    }

    private static void get() {
        Edge.promise("36, get");
        Edge.due("place 0", FOUR.get().get(2, 0), -7);
        Edge.due("the last place", FOUR.get().get(1, 2), 77);
        Edge.due("the last place of 20", FOUR.get().get(2, 19), 0);
        for (int list : NO_LISTS) {
            Edge.refused("no such LIST: " + list, FOUR, x -> x.get(list, 0), NO_VALUE);
        }
        Edge.refused("nothing there", FOUR, x -> x.get(0, 0), NO_VALUE);
        Edge.refused("nothing there, place -1", FOUR, x -> x.get(0, -1), NO_VALUE);
        Edge.refused("no such place: -1", FOUR, x -> x.get(1, -1), NO_VALUE);
        Edge.refused("no such place: as many as there are", FOUR, x -> x.get(1, 3), NO_VALUE);
        Edge.refused("no such place: 20 of 20", FOUR, x -> x.get(2, 20), NO_VALUE);
        Edge.refused("no such place: not the first of the next LIST", FOUR, x -> x.get(1, 20), NO_VALUE);
        Edge.refused("no such place: the greatest int", FOUR, x -> x.get(1, MAX), NO_VALUE);
        Edge.refused("no such place: the least int", FOUR, x -> x.get(1, MIN), NO_VALUE);
        Edge.refused("no such place: a row of none", () -> four(0), x -> x.get(0, 0), NO_VALUE);
    }

    private static String laid(int places, int from, int want) {
        SwissRounds x = four(places);
        Edge.due("lay(0, " + from + ") into " + places, x.lay(0, from), want);
        return Edge.row(x, 0);
    }

    private static void lay() {
        Edge.promise("37, lay");
        for (int list : NO_LISTS) {
            Edge.refused("NONE: list " + list, FOUR, x -> x.lay(list, 0), NONE);
            Edge.refused("NONE: list " + list + ", below 0", FOUR, x -> x.lay(list, -1), NONE);
        }
        Edge.refused("NOTHING: none is held", FOUR, x -> x.lay(0, 0), NOTHING);
        Edge.refused("NOTHING ahead of BEYOND", FOUR, x -> x.lay(3, -1), NOTHING);
        Edge.due("as many places as PLAYERS", laid(4, 0, 4), "3 2 1 0");
        Edge.due("more places: those behind are as they were", laid(6, 0, 4), "3 2 1 0 -1 -1");
        Edge.due("from a place on: those ahead are as they were", laid(6, 2, 4), "-1 -1 3 2 1 0");
        Edge.due("one place too few: those that had a place are there", laid(3, 0, BEYOND), "3 2 1");
        Edge.due("from a place on, one too few", laid(6, 3, BEYOND), "-1 -1 -1 3 2 1");
        Edge.due("from the last place on", laid(6, 5, BEYOND), "-1 -1 -1 -1 -1 3");
        Edge.due("from where no place is", laid(6, 6, BEYOND), "-1 -1 -1 -1 -1 -1");
        Edge.due("a row of none", laid(0, 0, BEYOND), "");
        Edge.refused("none, if i is -1", () -> four(6), x -> x.lay(0, -1), BEYOND);
        Edge.refused("none, if i is so far below 0 that the last would have a place", () -> four(6), x -> x.lay(0, -3), BEYOND);
        Edge.refused("none, if i is the least int", () -> four(6), x -> x.lay(0, MIN), BEYOND);
        Edge.refused("none, if i is the greatest int: no wrap-around", () -> four(6), x -> x.lay(0, MAX), BEYOND);
        Edge.refused("none, if i and 3 wrap around to a place", () -> four(6), x -> x.lay(0, MAX - 1), BEYOND);
        Edge.refused("20 of 20", () -> four(20), x -> x.lay(0, 20), BEYOND);
        Edge.refused("no PLAYERS: none of none", Edge.busy(SwissRounds::new), x -> x.lay(1, 0), 0);
        Edge.refused("no PLAYERS, NOTHING all the same", Edge.busy(SwissRounds::new), x -> x.lay(0, 0), NOTHING);
        Edge.refused("no PLAYERS, where no place is: all of none were", Edge.busy(SwissRounds::new), x -> x.lay(1, 3), 0);
        layOfTwelve();
    }

    private static void layOfTwelve() {
        SwissRounds x = Edge.twelve();
        x.leave(11);
        x.list(3, 20);
        Edge.due("12 into the last of 20, OUT or IN", x.lay(3, 8), 12);
        Edge.due("12 from place 8 on", Edge.row(x, 3), "0 0 0 0 0 0 0 0 11 10 9 8 7 6 5 4 3 2 1 0");
        x.list(0, 20);
        x.list(1, 20);
        Edge.due("11 of 12 had a place", x.lay(0, 9), BEYOND);
        Edge.due("11 from place 9 on", Edge.row(x, 0), "0 0 0 0 0 0 0 0 0 11 10 9 8 7 6 5 4 3 2 1");
        Edge.due("none of them came into the next LIST", Edge.row(x, 1), "0 0 0 0 0 0 0 0 0 0 0 0 0 0 0 0 0 0 0 0");
    }

    /** LIST 0 of four() has these values; the STANDING is 3, 2, 1, 0. */
    private static Supplier<SwissRounds> holding(int... values) {
        return () -> {
            SwissRounds x = Edge.four();
            x.list(0, values.length);
            for (int i = 0; i < values.length; i++) {
                x.set(0, i, values[i]);
            }
            return x;
        };
    }

    private static void judge() {
        Edge.promise("38, judge");
        for (int list : NO_LISTS) {
            Edge.refused("NONE: list " + list, FOUR, x -> x.judge(list, 0), NONE);
            Edge.refused("NONE: list " + list + ", below 0", FOUR, x -> x.judge(list, -1), NONE);
        }
        Edge.refused("NOTHING: none is held", FOUR, x -> x.judge(0, 0), NOTHING);
        Edge.refused("NOTHING ahead of 100", FOUR, x -> x.judge(3, -1), NOTHING);
        Edge.asked("-5: none", holding(3, 2, 1, 0), x -> x.judge(0, 0), LACKING);
        Edge.asked("-5: what is behind isn't looked at", holding(3, 2, 1, 0, 9), x -> x.judge(0, 0), LACKING);
        Edge.asked("-5: what is ahead isn't looked at", holding(9, 3, 2, 1, 0), x -> x.judge(0, 1), LACKING);
        Edge.asked("0: the first", holding(9, 2, 1, 0), x -> x.judge(0, 0), 0);
        Edge.asked("3: the last", holding(3, 2, 1, 9), x -> x.judge(0, 0), 3);
        Edge.asked("the first of two", holding(3, 9, 1, 9), x -> x.judge(0, 0), 1);
        Edge.asked("from that place on, 0 the first", holding(3, 3, 2, 9, 0), x -> x.judge(0, 1), 2);
        Edge.asked("100 and 0: a row of none", holding(), x -> x.judge(0, 0), 100);
        Edge.asked("100 and 3: the LIST ends ahead of the last", holding(3, 2, 1), x -> x.judge(0, 0), 103);
        Edge.asked("100 and 1: one place is left", holding(9, 9, 3), x -> x.judge(0, 2), 101);
        Edge.asked("100 and 0: from where no place is", holding(3, 2, 1, 0), x -> x.judge(0, 4), 100);
        Edge.asked("100 and 0: from far behind", holding(3, 2, 1, 0), x -> x.judge(0, 20), 100);
        Edge.asked("another one ahead of the LIST's end", holding(3, 9), x -> x.judge(0, 0), 1);
        Edge.asked("100 and 0: the place is -1", holding(3, 2, 1, 0), x -> x.judge(0, -1), 100);
        Edge.asked("100 and 0: the place is -3, and the last would have one", holding(0), x -> x.judge(0, -3), 100);
        Edge.asked("100 and 0: the least int", holding(3, 2, 1, 0), x -> x.judge(0, MIN), 100);
        Edge.asked("100 and 0: the greatest int", holding(3, 2, 1, 0), x -> x.judge(0, MAX), 100);
        Edge.asked("100 and 0: the greatest int less 1", holding(3, 2, 1, 0), x -> x.judge(0, MAX - 1), 100);
        Edge.asked("no PLAYERS: none", Edge.busy(SwissRounds::new), x -> x.judge(1, 0), LACKING);
        Edge.asked("no PLAYERS, where no place is: none", Edge.busy(SwissRounds::new), x -> x.judge(1, 3), LACKING);
        Edge.refused("no PLAYERS, NOTHING all the same", Edge.busy(SwissRounds::new), x -> x.judge(0, 0), NOTHING);
        SwissRounds twelve = Edge.twelve();
        twelve.list(0, 20);
        twelve.lay(0, 9);
        Edge.due("100 and 11 of 12", twelve.judge(0, 9), 111);
        twelve.lay(0, 8);
        Edge.due("-5: 12 in the last of 20", twelve.judge(0, 8), LACKING);
    }

    private static void image() {
        Edge.promise("39, image");
        Edge.due("how many ROUNDS there are: none", new SwissRounds().image(), 0);
        Edge.due("how many ROUNDS there are: the OPEN one, too", Edge.fourOpen().image(), 1);
        Edge.due("how many ROUNDS there are: 20", Edge.twenty().image(), 20);
        Edge.same("taken anew where it was taken, it is the same", FOUR, () -> {
            SwissRounds x = FOUR.get();
            x.undo();
            x.image();
            x.rate(0, 1999);
            return x;
        });
        SwissRounds x = Edge.four();
        x.image();
        x.pair();
        x.image();
        x.drop();
        Edge.due("the later IMAGE is the one", x.undo(), 1);
    }

    private static Supplier<SwissRounds> undone(Supplier<SwissRounds> made, Consumer<SwissRounds> between) {
        return () -> {
            SwissRounds x = made.get();
            x.image();
            between.accept(x);
            x.undo();
            return x;
        };
    }

    /** That all of it, and an IMAGE that was taken of it, are there again. */
    private static void dueUndone(String sentence, Supplier<SwissRounds> made, Consumer<SwissRounds> between) {
        Edge.same(sentence, undone(made, x -> { }), undone(made, between));
    }

    private static void undo() {
        Edge.promise("40, undo");
        Edge.refused("STATE: there is none", Edge::fourAfterTwo, SwissRounds::undo, STATE);
        Edge.refused("STATE: there is none, no PLAYERS", SwissRounds::new, SwissRounds::undo, STATE);
        Edge.due("how many ROUNDS there are", undone(Edge::fourOpen, SwissRounds::drop).get().undo(), 1);
        dueUndone("join()", Edge::four, x -> x.join(5));
        dueUndone("the first join()", SwissRounds::new, x -> x.join(5));
        dueUndone("leave()", Edge::four, x -> x.leave(3));
        dueUndone("rate()", Edge::four, x -> x.rate(0, 3000));
        dueUndone("order()", Edge::fourAfterTwo, x -> Edge.order(x, "kr"));
        dueUndone("pair()", Edge::four, SwissRounds::pair);
        dueUndone("result()", Edge::fourOpen, x -> x.result(0, 1));
        dueUndone("results(), close()", Edge::fourOpen, x -> {
            Edge.results(x, "11");
            x.close();
        });
        dueUndone("drop() of an OPEN ROUND", Edge::fiveOpen, SwissRounds::drop);
        dueUndone("drop() of a DONE ROUND", Edge::fourAfterTwo, SwissRounds::drop);
        dueUndone("drop() of all and other ROUNDS", Edge::fourAfterTwo, ListsEdgesTest::otherRounds);
        dueUndone("20 ROUNDS, all dropped", Edge::twenty, x -> Edge.row(20, i -> x.drop()));
        dueUndone("a full field behind an empty one", SwissRounds::new, x -> Edge.row(12, x::join));
        dueUndone("undo() itself", Edge::fourAfterTwo, x -> {
            x.drop();
            x.undo();
            x.join(9);
        });
        notOfTheImage();
    }

    private static void otherRounds(SwissRounds x) {
        x.drop();
        x.drop();
        x.leave(0);
        x.join(2999);
        x.join(2998);
        Edge.round(x, "x+");
        x.leave(4);
        x.pair();
        x.result(0, 5);
    }

    private static void notOfTheImage() {
        SwissRounds x = Edge.four();
        x.list(0, 2);
        x.image();
        Edge.feed(x, "oc");
        x.line(1);
        x.set(0, 1, 5);
        x.list(1, 1);
        x.undo();
        Edge.due("THE TAPE isn't of THE IMAGE: how many", x.told(5), 2);
        Edge.due("THE TAPE isn't of THE IMAGE: its bytes", x.order(), 3);
        Edge.due("THE PAPER isn't of THE IMAGE", Edge.row(4, x::paper), "49 32 48 -1");
        Edge.due("LISTS aren't of THE IMAGE", Edge.row(x, 0), "0 5");
        Edge.due("LISTS that were made since stay", Edge.row(x, 1), "0");
    }

    public static void main(String[] args) {
        list();
        set();
        get();
        lay();
        judge();
        image();
        undo();
        Edge.end("ListsEdgesTest");
    }
}
