import java.util.ArrayList;
import java.util.Arrays;
import java.util.List;
import java.util.Random;

/**
 * Runs of calls by a fixed seed, each answer compared with that of a plain model. The model keeps games as a list,
 * counts anew for every question and looks at all pairings one by one, so that it shares no way of working with the
 * class.
 */
public final class OracleTest {
    private static final int RUNS = 2000;
    private static final int STEPS = 150;

    private static final class Game {
        int white, black, result;

        Game(int white, int black) {
            this.white = white;
            this.black = black;
        }

        boolean has(int p) {
            return white == p || black == p;
        }

        int other(int p) {
            return white == p ? black : white;
        }

        boolean played() {
            return result == 1 || result == 2 || result == 3;
        }

        boolean wonBy(int p) {
            return white == p ? result == 1 || result == 4 : result == 3 || result == 5;
        }

        int pointsOf(int p) {
            return wonBy(p) ? 2 : result == 2 ? 1 : 0;
        }
    }

    private static final class Round {
        List<Game> games = new ArrayList<>();
        int bye = -5;

        Game gameOf(int p) {
            for (Game g : games) {
                if (g.has(p)) {
                    return g;
                }
            }
            return null;
        }

        Round copy() {
            Round r = new Round();
            r.bye = bye;
            for (Game g : games) {
                Game c = new Game(g.white, g.black);
                c.result = g.result;
                r.games.add(c);
            }
            return r;
        }
    }

    private static final class State {
        List<Integer> ratings = new ArrayList<>();
        List<Boolean> in = new ArrayList<>();
        List<Round> rounds = new ArrayList<>();
        boolean open;
        List<Integer> order = new ArrayList<>(List.of(0, 1, 3, 4, 8));

        State copy() {
            State s = new State();
            s.ratings = new ArrayList<>(ratings);
            s.in = new ArrayList<>(in);
            for (Round r : rounds) {
                s.rounds.add(r.copy());
            }
            s.open = open;
            s.order = new ArrayList<>(order);
            return s;
        }
    }

    private static final class Model {
        State s = new State();
        State image;
        StringBuilder tape = new StringBuilder();
        String paper = "";
        int[][] lists = new int[4][];

        int n() {
            return s.ratings.size();
        }

        boolean no(int p) {
            return p < 0 || p >= n();
        }

        boolean no2(int a, int b) {
            return no(a) || no(b) || a == b;
        }

        List<Round> done() {
            return s.open ? s.rounds.subList(0, s.rounds.size() - 1) : s.rounds;
        }

        Round last() {
            return s.rounds.get(s.rounds.size() - 1);
        }

        int inCount() {
            int c = 0;
            for (boolean b : s.in) {
                c += b ? 1 : 0;
            }
            return c;
        }

        int pointsIn(Round r, int p) {
            Game g = r.gameOf(p);
            return r.bye == p ? 2 : g == null ? 0 : g.pointsOf(p);
        }

        int points(int p) {
            int sum = 0;
            for (Round r : done()) {
                sum += pointsIn(r, p);
            }
            return sum;
        }

        List<Game> playedBy(int p) {
            List<Game> all = new ArrayList<>();
            for (Round r : done()) {
                Game g = r.gameOf(p);
                if (g != null && g.played()) {
                    all.add(g);
                }
            }
            return all;
        }

        int balance(int p) {
            int b = 0;
            for (Game g : playedBy(p)) {
                b += g.white == p ? 1 : -1;
            }
            return b;
        }

        int latest(int p) {
            List<Game> all = playedBy(p);
            return all.isEmpty() ? -5 : all.get(all.size() - 1).white == p ? 0 : 1;
        }

        int byes(int p) {
            int c = 0;
            for (Round r : done()) {
                c += r.bye == p ? 1 : 0;
            }
            return c;
        }

        int forfeitWins(int p) {
            int c = 0;
            for (Round r : done()) {
                Game g = r.gameOf(p);
                c += g != null && !g.played() && g.wonBy(p) ? 1 : 0;
            }
            return c;
        }

        int metIn(int a, int b) {
            for (int i = 0; i < done().size(); i++) {
                Game g = done().get(i).gameOf(a);
                if (g != null && g.has(b) && g.played()) {
                    return i;
                }
            }
            return -5;
        }

        int tieOf(int p, int which) {
            int sum = 0;
            int least = Integer.MAX_VALUE;
            for (Game g : playedBy(p)) {
                int theirs = points(g.other(p));
                least = Math.min(least, theirs);
                switch (which) {
                    case 1, 2 -> sum += theirs;
                    case 3 -> sum += g.wonBy(p) ? 2 * theirs : g.result == 2 ? theirs : 0;
                    case 4 -> sum += g.wonBy(p) ? 1 : 0;
                    case 5 -> sum += g.black == p ? 1 : 0;
                    case 7 -> sum += theirs == points(p) ? g.pointsOf(p) : 0;
                    default -> { }
                }
            }
            if (which == 2 && least != Integer.MAX_VALUE) {
                sum -= least;
            }
            if (which == 6) {
                int so = 0;
                for (Round r : done()) {
                    so += pointsIn(r, p);
                    sum += so;
                }
            }
            return which == 0 ? points(p) : which == 8 ? s.ratings.get(p) : sum;
        }

        int compare(int a, int b) {
            for (int which : s.order) {
                int d = tieOf(b, which) - tieOf(a, which);
                if (d != 0) {
                    return d;
                }
            }
            return a - b;
        }

        List<Integer> standing() {
            List<Integer> all = new ArrayList<>();
            for (int p = 0; p < n(); p++) {
                all.add(p);
            }
            all.sort(this::compare);
            return all;
        }

        int costOf(int a, int b) {
            int c = 10 * Math.abs(points(a) - points(b));
            c += Integer.signum(balance(a)) == Integer.signum(balance(b)) && balance(a) != 0 ? 3 : 0;
            c += latest(a) >= 0 && latest(a) == latest(b) ? 1 : 0;
            return c;
        }

        int byePlayer;
        int bestCost;
        int wayCount;
        List<Integer> best;
        int[][] costs;

        void search() {
            List<Integer> left = new ArrayList<>();
            for (int p : standing()) {
                if (s.in.get(p)) {
                    left.add(p);
                }
            }
            byePlayer = -5;
            if (left.size() % 2 == 1) {
                byePlayer = left.get(left.size() - 1);
                for (int p : left) {
                    if (byes(p) == 0 && forfeitWins(p) == 0) {
                        byePlayer = p;
                    }
                }
                if (byes(byePlayer) + forfeitWins(byePlayer) > 0) {
                    byePlayer = left.get(left.size() - 1);
                }
                left.remove((Integer) byePlayer);
            }
            costs = new int[n()][n()];
            for (int a : left) {
                for (int b : left) {
                    costs[a][b] = a == b || metIn(a, b) != -5 ? -1 : costOf(a, b);
                }
            }
            bestCost = -9;
            wayCount = 0;
            best = null;
            go(left, new ArrayList<>(), 0);
        }

        void go(List<Integer> left, List<Integer> chosen, int sum) {
            if (left.isEmpty()) {
                wayCount++;
                if (best == null || sum < bestCost) {
                    bestCost = sum;
                    best = new ArrayList<>(chosen);
                }
                return;
            }
            int a = left.get(0);
            for (int i = 1; i < left.size(); i++) {
                int b = left.get(i);
                if (costs[a][b] >= 0) {
                    List<Integer> rest = new ArrayList<>(left);
                    rest.remove(i);
                    rest.remove(0);
                    chosen.add(a);
                    chosen.add(b);
                    go(rest, chosen, sum + costs[a][b]);
                    chosen.remove(chosen.size() - 1);
                    chosen.remove(chosen.size() - 1);
                }
            }
        }

        boolean firstHasWhite(int a, int b, int board) {
            if (balance(a) != balance(b)) {
                return balance(a) < balance(b);
            }
            if (latest(a) == 1 && latest(b) != 1) {
                return true;
            }
            if (latest(b) == 1 && latest(a) != 1) {
                return false;
            }
            return board % 2 == 0;
        }

        int pair() {
            if (s.open) {
                return -3;
            }
            if (inCount() < 2) {
                return -2;
            }
            if (s.rounds.size() == 20) {
                return -4;
            }
            search();
            if (best == null) {
                return -9;
            }
            Round r = new Round();
            r.bye = byePlayer;
            for (int i = 0; i < best.size() / 2; i++) {
                int a = best.get(2 * i);
                int b = best.get(2 * i + 1);
                r.games.add(firstHasWhite(a, b, i) ? new Game(a, b) : new Game(b, a));
            }
            s.rounds.add(r);
            s.open = true;
            return r.games.size();
        }

        int results() {
            String text = tape.toString();
            tape.setLength(0);
            if (!s.open) {
                return -3;
            }
            int boards = last().games.size();
            for (int i = 0; i < text.length(); i++) {
                if (i >= boards || ".1=0+-x".indexOf(text.charAt(i)) < 0) {
                    return -100 - i;
                }
            }
            if (text.length() < boards) {
                return -100 - text.length();
            }
            int have = 0;
            for (int i = 0; i < boards; i++) {
                Game g = last().games.get(i);
                int told = ".1=0+-x".indexOf(text.charAt(i));
                g.result = told == 0 ? g.result : told;
                have += g.result == 0 ? 0 : 1;
            }
            return have;
        }

        int order() {
            String text = tape.toString();
            tape.setLength(0);
            for (int i = 0; i < text.length(); i++) {
                if ("ocbwkgdr".indexOf(text.charAt(i)) < 0 || text.indexOf(text.charAt(i)) < i) {
                    return -100 - i;
                }
            }
            if (text.isEmpty()) {
                return -100;
            }
            s.order = new ArrayList<>(List.of(0));
            for (char c : text.toCharArray()) {
                s.order.add("ocbwkgdr".indexOf(c) + 1);
            }
            return s.order.size();
        }

        int line(int p) {
            StringBuilder b = new StringBuilder();
            b.append(p).append(' ').append(points(p) / 2).append(points(p) % 2 == 1 ? ".5" : "");
            for (Round r : done()) {
                Game g = r.gameOf(p);
                b.append(' ');
                if (g == null) {
                    b.append(r.bye == p ? 'B' : 'z');
                } else if (g.played()) {
                    b.append(g.other(p)).append("0=1".charAt(g.pointsOf(p)));
                } else {
                    b.append(g.other(p)).append(g.wonBy(p) ? '+' : '-');
                }
            }
            paper = b.toString();
            return paper.length();
        }

        int average(int p, int part) {
            int sum = 0;
            int count = 0;
            for (Game g : playedBy(p)) {
                sum += s.ratings.get(g.other(p));
                count++;
            }
            if (count == 0) {
                return part;
            }
            int a = sum;
            int b = count;
            while (b != 0) {
                int r = a % b;
                a = b;
                b = r;
            }
            return part == 0 ? sum / a : count / a;
        }
    }

    /** A call's answers by the class and by the model. */
    private final Random random;
    private final SwissRounds x = new SwissRounds();
    private final Model m = new Model();
    private String call;
    private int got;
    private int want;
    /** How many of a hundred steps are whole ROUNDS. */
    private int pace;

    private OracleTest(long seed) {
        random = new Random(seed);
    }

    private int pick(int... of) {
        return of[random.nextInt(of.length)];
    }

    private int player() {
        return random.nextInt(30) == 0 ? pick(-1, m.n(), 12, Integer.MAX_VALUE, Integer.MIN_VALUE) : random.nextInt(Math.max(1, m.n()));
    }

    private int round() {
        int rounds = m.s.rounds.size();
        return random.nextInt(20) == 0 ? pick(-1, rounds, 20, Integer.MAX_VALUE, Integer.MIN_VALUE) : random.nextInt(rounds + 1);
    }

    private int small(int top) {
        return random.nextInt(25) == 0 ? pick(-1, top + 1, Integer.MAX_VALUE, Integer.MIN_VALUE) : random.nextInt(top + 1);
    }

    private void answers(String name, int got, int want) {
        this.call = name;
        this.got = got;
        this.want = want;
    }

    private void step() {
        int kind = random.nextInt(100);
        if (kind < 8) {
            players();
        } else if (kind < 30) {
            rounds();
        } else if (kind < 30 + pace) {
            wholeRound();
        } else if (kind < 70) {
            questions();
        } else if (kind < 85) {
            texts();
        } else if (kind < 96) {
            lists();
        } else {
            images();
        }
    }

    private void players() {
        int p = player();
        int rating = random.nextInt(10) == 0 ? pick(-1, 0, 3000, 3001, Integer.MAX_VALUE) : 1000 + 100 * random.nextInt(6);
        switch (random.nextInt(8)) {
            case 0, 1, 2, 3 -> {
                int due = rating < 0 || rating > 3000 ? -2 : m.s.open ? -3 : m.n() == 12 ? -4 : m.n();
                if (due >= 0) {
                    m.s.ratings.add(rating);
                    m.s.in.add(true);
                }
                answers("join(" + rating + ")", x.join(rating), due);
            }
            case 4 -> {
                int due = m.no(p) ? -1 : !m.s.in.get(p) || m.s.open ? -3 : m.inCount() - 1;
                if (due >= 0) {
                    m.s.in.set(p, false);
                }
                answers("leave(" + p + ")", x.leave(p), due);
            }
            case 5, 6 -> {
                int due = m.no(p) ? -1 : m.s.in.get(p) || m.s.open ? -3 : m.inCount() + 1;
                if (due >= 0) {
                    m.s.in.set(p, true);
                }
                answers("back(" + p + ")", x.back(p), due);
            }
            default -> {
                int due = m.no(p) ? -1 : rating < 0 || rating > 3000 ? -2 : m.s.ratings.get(p);
                if (due >= 0) {
                    m.s.ratings.set(p, rating);
                }
                answers("rate(" + p + ", " + rating + ")", x.rate(p, rating), due);
            }
        }
    }

    private void rounds() {
        switch (random.nextInt(12)) {
            case 0, 1 -> answers("pair()", x.pair(), m.pair());
            case 2 -> {
                int due = m.s.rounds.isEmpty() ? -3 : m.s.rounds.size() - 1;
                if (random.nextInt(4) > 0) {
                    answers("told(2)", x.told(2), m.s.rounds.size());
                    return;
                }
                if (due >= 0) {
                    m.s.rounds.remove(due);
                    m.s.open = false;
                }
                answers("drop()", x.drop(), due);
            }
            case 3, 4, 5 -> {
                boolean lacking = m.s.open && m.last().games.stream().anyMatch(g -> g.result == 0);
                int due = !m.s.open || lacking ? -3 : m.s.rounds.size();
                if (due >= 0) {
                    m.s.open = false;
                }
                answers("close()", x.close(), due);
            }
            default -> {
                int boards = m.s.open ? m.last().games.size() : 1;
                int b = random.nextInt(20) == 0 ? pick(-1, boards, 6) : random.nextInt(boards);
                int r = random.nextInt(20) == 0 ? pick(-1, 0, 7, Integer.MIN_VALUE) : 1 + random.nextInt(random.nextInt(3) == 0 ? 6 : 3);
                int due = !m.s.open ? -3 : b < 0 || b >= boards ? -1 : r < 0 || r > 6 ? -2 : m.last().games.get(b).result;
                if (due >= 0) {
                    m.last().games.get(b).result = r;
                }
                answers("result(" + b + ", " + r + ")", x.result(b, r), due);
            }
        }
    }

    /** A ROUND from pair() to close(); an answer that goes wrong ends it. */
    private void wholeRound() {
        answers("pair()", x.pair(), m.pair());
        if (got != want || got < 0) {
            return;
        }
        String letters = random.nextInt(3) == 0 ? "1=01=0+-x" : random.nextInt(3) == 0 ? "+-x" : "1=0";
        feedAll(randomText(letters, got));
        answers("results()", x.results(), m.results());
        if (got != want || got < 0) {
            return;
        }
        m.s.open = false;
        answers("close()", x.close(), m.s.rounds.size());
    }

    private void questions() {
        int p = player();
        int q = player();
        int r = round();
        switch (random.nextInt(17)) {
            case 0 -> of(p, small(8));
            case 1 -> {
                int which = small(8);
                answers("tie(" + p + ", " + which + ")", x.tie(p, which), m.no(p) || which < 0 || which > 8 ? -1 : m.tieOf(p, which));
            }
            case 2 -> answers("rank(" + p + ")", x.rank(p), m.no(p) ? -1 : m.standing().indexOf(p));
            case 3 -> answers("nth(" + p + ")", x.nth(p), m.no(p) ? -1 : m.standing().get(p));
            case 4 -> explain(p, q, small(1));
            case 5 -> answers("met(" + p + ", " + q + ")", x.met(p, q), m.no2(p, q) ? -1 : m.metIn(p, q));
            case 6 -> answers("cost(" + p + ", " + q + ")", x.cost(p, q), m.no2(p, q) ? -1 : m.metIn(p, q) != -5 ? -5 : m.costOf(p, q));
            case 7, 8 -> {
                int due = m.s.open ? -3 : m.inCount() < 2 ? -2 : 0;
                if (due == 0) {
                    m.search();
                    if (random.nextBoolean()) {
                        answers("least()", x.least(), m.bestCost);
                    } else {
                        answers("ways()", x.ways(), m.wayCount);
                    }
                } else {
                    answers("least(), ways()", x.least() * 10 + x.ways(), due * 11);
                }
            }
            case 9, 10 -> board(r, small(5), small(2));
            case 11 -> answers("bye(" + r + ")", x.bye(r), r < 0 || r >= m.s.rounds.size() ? -1 : m.s.rounds.get(r).bye);
            case 12, 13 -> game(p, r, small(2));
            case 14 -> {
                int due = m.no2(p, q) ? -1 : m.metIn(p, q) == -5 ? 0 : m.done().get(m.metIn(p, q)).gameOf(p).pointsOf(p);
                answers("direct(" + p + ", " + q + ")", x.direct(p, q), due);
            }
            case 15 -> {
                int part = small(1);
                answers("average(" + p + ", " + part + ")", x.average(p, part), m.no(p) || part < 0 || part > 1 ? -1 : m.average(p, part));
            }
            default -> counts(p);
        }
    }

    private void of(int p, int what) {
        int due = -1;
        if (!m.no(p)) {
            int met = 0;
            for (int q = 0; q < m.n(); q++) {
                met += q != p && m.metIn(p, q) != -5 ? 1 : 0;
            }
            int[] all = {m.s.ratings.get(p), m.s.in.get(p) ? 1 : 0, m.points(p), m.playedBy(p).size(), m.balance(p) + 100,
                m.latest(p), m.byes(p), m.forfeitWins(p), met};
            due = what < 0 || what >= all.length ? -1 : all[what];
        }
        answers("of(" + p + ", " + what + ")", x.of(p, what), due);
    }

    private void explain(int p, int q, int what) {
        int due = -1;
        if (!m.no2(p, q) && what >= 0 && what <= 1) {
            due = what == 0 ? -5 : q - p;
            for (int which : m.s.order) {
                int d = m.tieOf(p, which) - m.tieOf(q, which);
                if (d != 0) {
                    due = what == 0 ? which : d;
                    break;
                }
            }
        }
        answers("explain(" + p + ", " + q + ", " + what + ")", x.explain(p, q, what), due);
    }

    private void board(int r, int b, int what) {
        int due = -1;
        if (r >= 0 && r < m.s.rounds.size() && b >= 0 && b < m.s.rounds.get(r).games.size() && what >= 0 && what <= 2) {
            Game g = m.s.rounds.get(r).games.get(b);
            due = what == 0 ? g.white : what == 1 ? g.black : g.result;
        }
        answers("board(" + r + ", " + b + ", " + what + ")", x.board(r, b, what), due);
    }

    private void game(int p, int r, int what) {
        int due = -1;
        if (!m.no(p) && r >= 0 && r < m.s.rounds.size() && what >= 0 && what <= 2) {
            Game g = m.s.rounds.get(r).gameOf(p);
            int[] all = {g == null ? -5 : g.other(p), g == null ? -5 : g.white == p ? 0 : 1,
                r < m.done().size() ? m.pointsIn(m.s.rounds.get(r), p) : -5};
            due = all[what];
        }
        answers("game(" + p + ", " + r + ", " + what + ")", x.game(p, r, what), due);
    }

    private void counts(int p) {
        int what = small(8);
        int c = 0;
        switch (random.nextInt(3)) {
            case 0 -> {
                for (int q = 0; q < m.n() && !m.no(p); q++) {
                    c += m.points(q) == m.points(m.standing().get(p)) ? 1 : 0;
                }
                answers("alike(" + p + ")", x.alike(p), m.no(p) ? -1 : c);
            }
            case 1 -> {
                what = small(2);
                for (int q = 0; q < m.n(); q++) {
                    int b = m.balance(q);
                    c += what == 0 && b > 0 || what == 1 && b < 0 || what == 2 && Math.abs(b) > 1 ? 1 : 0;
                }
                answers("colours(" + what + ")", x.colours(what), what < 0 || what > 2 ? -1 : c);
            }
            default -> {
                int met = 0;
                for (int a = 0; a < m.n(); a++) {
                    c += m.points(a);
                    for (int b = 0; b < a; b++) {
                        met += m.metIn(a, b) == -5 ? 0 : 1;
                    }
                }
                int[] all = {m.n(), m.inCount(), m.s.rounds.size(), m.done().size(), m.s.open ? m.last().games.size() : -5,
                    m.tape.length(), m.paper.length(), met, c};
                answers("told(" + what + ")", x.told(what), what < 0 || what > 8 ? -1 : all[what]);
            }
        }
    }

    private void feedAll(String text) {
        for (char c : text.toCharArray()) {
            x.feed(c);
            if (m.tape.length() < 40) {
                m.tape.append(c);
            }
        }
    }

    private String randomText(String letters, int length) {
        StringBuilder b = new StringBuilder();
        for (int i = 0; i < length; i++) {
            b.append(letters.charAt(random.nextInt(letters.length())));
        }
        return b.toString();
    }

    private String shuffledLetters() {
        StringBuilder left = new StringBuilder("ocbwkgdr");
        StringBuilder b = new StringBuilder();
        for (int i = 1 + random.nextInt(8); i > 0; i--) {
            int at = random.nextInt(left.length());
            b.append(left.charAt(at));
            left.deleteCharAt(at);
        }
        return b.toString();
    }

    private void texts() {
        int p = player();
        switch (random.nextInt(9)) {
            case 0, 1, 2 -> {
                int boards = m.s.open ? m.last().games.size() : 2;
                feedAll(randomText(random.nextInt(6) == 0 ? ".1=0+-xz" : "1=01=0+-x.", Math.max(0, boards + (random.nextInt(5) == 0 ? pick(-1, 1) : 0))));
                answers("results()", x.results(), m.results());
            }
            case 3 -> {
                feedAll(random.nextBoolean() ? shuffledLetters() : randomText("ocbwkgdrp", random.nextInt(4)));
                answers("order()", x.order(), m.order());
            }
            case 4 -> {
                int i = random.nextInt(11) - 1;
                answers("ordered(" + i + ")", x.ordered(i), i < 0 ? -1 : i < m.s.order.size() ? m.s.order.get(i) : -5);
            }
            case 5, 6 -> answers("line(" + p + ")", x.line(p), m.no(p) ? -1 : m.line(p));
            case 7 -> {
                int i = random.nextInt(m.paper.length() + 3) - 1;
                answers("paper(" + i + ")", x.paper(i), i < 0 || i >= m.paper.length() ? -1 : m.paper.charAt(i));
            }
            default -> {
                int letter = pick(-1, 0, 1, 49, 111, 127, 128);
                if (random.nextInt(3) == 0) {
                    int had = m.tape.length();
                    m.tape.setLength(0);
                    answers("clear()", x.clear(), had);
                    return;
                }
                int due = letter < 1 || letter > 127 ? -2 : m.tape.length() == 40 ? -4 : m.tape.length() + 1;
                if (due > 0) {
                    m.tape.append((char) letter);
                }
                answers("feed(" + letter + ")", x.feed(letter), due);
            }
        }
    }

    private void lists() {
        int l = random.nextInt(15) == 0 ? pick(-1, 4, Integer.MAX_VALUE) : random.nextInt(4);
        int i = random.nextInt(15) == 0 ? pick(-1, 20, 21, Integer.MAX_VALUE, Integer.MIN_VALUE) : random.nextInt(5);
        int[] row = l < 0 || l > 3 ? null : m.lists[l];
        boolean no = l < 0 || l > 3;
        boolean there = row != null && i >= 0 && i < row.length;
        switch (random.nextInt(7)) {
            case 0 -> {
                int size = random.nextInt(5) == 0 ? pick(-1, 21, 0, 20, Integer.MIN_VALUE) : random.nextInt(21);
                int due = no ? -1 : size > 20 ? -2 : size < 0 ? -14 : 1;
                if (due == 1) {
                    m.lists[l] = new int[size];
                }
                answers("list(" + l + ", " + size + ")", x.list(l, size), due);
            }
            case 1 -> {
                int v = random.nextBoolean() ? random.nextInt(12) : random.nextInt();
                int due = no ? -1 : row == null ? -11 : there ? 1 : -13;
                if (due == 1) {
                    row[i] = v;
                }
                answers("set(" + l + ", " + i + ", " + v + ")", x.set(l, i, v), due);
            }
            case 2 -> answers("get(" + l + ", " + i + ")", x.get(l, i), there ? row[i] : -2000000000);
            case 3, 4 -> {
                int due = no ? -1 : row == null ? -11 : m.n();
                List<Integer> st = m.standing();
                for (int k = 0; k < st.size() && due >= 0; k++) {
                    if (i < 0 || (long) i + k >= row.length) {
                        due = -13;
                    } else {
                        row[i + k] = st.get(k);
                    }
                }
                answers("lay(" + l + ", " + i + ")", x.lay(l, i), due);
            }
            default -> {
                int due = no ? -1 : row == null ? -11 : -5;
                List<Integer> st = m.standing();
                for (int k = 0; k < st.size() && due == -5; k++) {
                    if (i < 0 || (long) i + k >= row.length) {
                        due = 100 + k;
                    } else if (row[i + k] != st.get(k)) {
                        due = k;
                    }
                }
                answers("judge(" + l + ", " + i + ")", x.judge(l, i), due);
            }
        }
    }

    private void images() {
        if (random.nextInt(3) > 0) {
            m.image = m.s.copy();
            answers("image()", x.image(), m.s.rounds.size());
        } else {
            int due = m.image == null ? -3 : m.image.rounds.size();
            if (m.image != null) {
                m.s = m.image.copy();
            }
            answers("undo()", x.undo(), due);
        }
    }

    /** A full field first in some runs, so that late ROUNDS and many PLAYERS come up. */
    private boolean run(long seed) {
        int crowd = (int) (seed % 5) * 3;
        pace = (int) (seed % 3) * 12;
        for (int p = 0; p < crowd; p++) {
            int rating = 1000 + 50 * random.nextInt(10);
            x.join(rating);
            m.s.ratings.add(rating);
            m.s.in.add(true);
        }
        for (int i = 0; i < STEPS; i++) {
            step();
            if (got != want) {
                System.out.println("seed " + seed + ", call " + i + ": " + call + " answered " + got + ", due is " + want);
                return false;
            }
        }
        return true;
    }

    public static void main(String[] args) {
        int wrong = 0;
        int[] seeds = new int[RUNS];
        Arrays.setAll(seeds, i -> i + 1);
        for (int seed : seeds) {
            wrong += new OracleTest(seed).run(seed) ? 0 : 1;
        }
        System.out.println(wrong == 0 ? "OracleTest: all answers are as due" : "OracleTest: " + wrong + " runs went wrong");
        if (wrong != 0) {
            System.exit(1);
        }
    }
}
