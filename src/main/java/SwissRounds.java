/** A tournament of rounds. ../shared/DOC.md tells, promise by promise, what each call answers. */
public final class SwissRounds {
    public static final int NONE = -1, BAD = -2, STATE = -3, FULL = -4;

    private static final int LACKING = -5;
    private static final int NO_PAIRING = -9;
    private static final int NOTHING = -11, BEYOND = -13, BELOW = -14;
    private static final int NO_VALUE = -2000000000;
    private static final int TEXT_FAULT = -100;
    private static final int ENDED = 100;

    private static final int MOST_PLAYERS = 12, MOST_ROUNDS = 20, MOST_BOARDS = 6;
    private static final int MOST_RATING = 3000;
    private static final int MOST_TAPE = 40, MOST_BYTE = 127;
    /** A number and POINTS take 7 bytes, each of 20 ROUNDS 4 at most. */
    private static final int MOST_PAPER = 96;
    private static final int LISTS = 4, MOST_PLACES = 20;
    /** One for each set of 12 seats. */
    private static final int SEAT_SETS = 4096;

    private static final int WHITE = 0, BLACK = 1;
    private static final int WON = 1, DRAWN = 2, LOST = 3, WON_BY_FORFEIT = 4, LOST_BY_FORFEIT = 5, BOTH_FORFEITED = 6;

    private static final int TIE_BREAKS = 9;
    private static final int POINTS = 0, OPPONENTS = 1, CUT = 2, BEATEN = 3, WINS = 4, BLACKS = 5, GROWTH = 6,
            DIRECT = 7, RATING = 8;

    /** The place of a letter is the RESULT that it tells; the first one leaves a BOARD as it is. */
    private static final String RESULT_LETTERS = ".1=0+-x";
    /** The place of a letter, and 1, is the TIE-BREAK that it tells. */
    private static final String ORDER_LETTERS = "ocbwkgdr";

    private final Book book = new Book();
    private final Book saved = new Book();
    private boolean isSaved;
    private final Table table = new Table(book);
    private final Pairing pairing = new Pairing(book, table);
    private final Text tape = new Text(MOST_TAPE);
    private final Text sheet = new Text(MOST_PAPER);
    private final Shelf shelf = new Shelf();

    public SwissRounds() {
    }

    // PLAYERS

    public int join(int rating) {
        if (!isRating(rating)) {
            return BAD;
        }
        if (book.open) {
            return STATE;
        }
        if (book.players >= MOST_PLAYERS) {
            return FULL;
        }
        int player = book.enter(rating);
        table.reckon();
        return player;
    }

    public int leave(int player) {
        return move(player, 0);
    }

    public int back(int player) {
        return move(player, 1);
    }

    /** OUT is 0 and IN is 1. */
    private int move(int player, int to) {
        if (!isPlayer(player)) {
            return NONE;
        }
        if (book.inside.at(player) == to || book.open) {
            return STATE;
        }
        book.inside.put(player, to);
        return book.countInside();
    }

    public int rate(int player, int rating) {
        if (!isPlayer(player)) {
            return NONE;
        }
        if (!isRating(rating)) {
            return BAD;
        }
        int before = book.ratings.at(player);
        book.ratings.put(player, rating);
        table.reckon();
        return before;
    }

    public int of(int player, int what) {
        if (!isPlayer(player)) {
            return NONE;
        }
        switch (what) {
            case 0: return book.ratings.at(player);
            case 1: return book.inside.at(player);
            case 2: return table.tieOf(player, POINTS);
            case 3: return table.played.at(player);
            case 4: return table.balances.at(player) + 100;
            case 5: return table.latest.at(player);
            case 6: return table.byes.at(player);
            case 7: return table.forfeits.at(player);
            case 8: return table.countMet(player);
            default: return NONE;
        }
    }

    // THE STANDING

    public int tie(int player, int which) {
        if (!isPlayer(player) || which < 0 || which >= TIE_BREAKS) {
            return NONE;
        }
        return table.tieOf(player, which);
    }

    public int rank(int player) {
        return isPlayer(player) ? table.placeOf(player) : NONE;
    }

    public int nth(int i) {
        return isPlayer(i) ? table.standing.at(i) : NONE;
    }

    public int explain(int one, int other, int what) {
        if (!areTwo(one, other) || what < 0 || what > 1) {
            return NONE;
        }
        int which = table.firstDifference(one, other);
        if (what == 0) {
            return which;
        }
        if (which == LACKING) {
            return other - one;
        }
        return table.tieOf(one, which) - table.tieOf(other, which);
    }

    public int alike(int i) {
        if (!isPlayer(i)) {
            return NONE;
        }
        int points = table.tieOf(table.standing.at(i), POINTS);
        int count = 0;
        for (int player = 0; player < book.players; player++) {
            if (table.tieOf(player, POINTS) == points) {
                count++;
            }
        }
        return count;
    }

    public int colours(int what) {
        if (what < 0 || what > 2) {
            return NONE;
        }
        int count = 0;
        for (int player = 0; player < book.players; player++) {
            if (isBalance(table.balances.at(player), what)) {
                count++;
            }
        }
        return count;
    }

    private static boolean isBalance(int balance, int what) {
        if (what == 0) {
            return balance > 0;
        }
        if (what == 1) {
            return balance < 0;
        }
        return balance > 1 || balance < -1;
    }

    // Two PLAYERS

    public int met(int one, int other) {
        return areTwo(one, other) ? table.meetingOf(one, other) : NONE;
    }

    public int cost(int one, int other) {
        return areTwo(one, other) ? table.costOf(one, other) : NONE;
    }

    public int direct(int one, int other) {
        return areTwo(one, other) ? table.madeAgainst(one, other) : NONE;
    }

    // PAIRING

    public int pair() {
        if (book.open) {
            return STATE;
        }
        if (book.countInside() < 2) {
            return BAD;
        }
        if (book.rounds >= MOST_ROUNDS) {
            return FULL;
        }
        pairing.arrange();
        if (pairing.leastCost() == NO_PAIRING) {
            return NO_PAIRING;
        }
        pairing.openRound();
        return book.boards.at(book.rounds - 1);
    }

    public int least() {
        if (book.open) {
            return STATE;
        }
        if (book.countInside() < 2) {
            return BAD;
        }
        pairing.arrange();
        return pairing.leastCost();
    }

    public int ways() {
        if (book.open) {
            return STATE;
        }
        if (book.countInside() < 2) {
            return BAD;
        }
        pairing.arrange();
        return pairing.countWays();
    }

    // ROUNDS

    public int board(int round, int board, int what) {
        if (!isRound(round) || board < 0 || board >= book.boards.at(round)) {
            return NONE;
        }
        int cell = Book.boardCell(round, board);
        switch (what) {
            case 0: return book.whites.at(cell);
            case 1: return book.blacks.at(cell);
            case 2: return book.outcomes.at(cell);
            default: return NONE;
        }
    }

    public int bye(int round) {
        return isRound(round) ? book.byes.at(round) : NONE;
    }

    public int result(int board, int result) {
        if (!book.open) {
            return STATE;
        }
        int round = book.rounds - 1;
        if (board < 0 || board >= book.boards.at(round)) {
            return NONE;
        }
        if (result < 0 || result > BOTH_FORFEITED) {
            return BAD;
        }
        int cell = Book.boardCell(round, board);
        int before = book.outcomes.at(cell);
        book.outcomes.put(cell, result);
        return before;
    }

    public int close() {
        if (!book.open) {
            return STATE;
        }
        int round = book.rounds - 1;
        if (book.countOutcomes(round) < book.boards.at(round)) {
            return STATE;
        }
        book.open = false;
        table.reckon();
        return book.rounds;
    }

    public int drop() {
        if (book.rounds == 0) {
            return STATE;
        }
        book.rounds--;
        book.open = false;
        table.reckon();
        return book.rounds;
    }

    public int game(int player, int round, int what) {
        if (!isPlayer(player) || !isRound(round)) {
            return NONE;
        }
        int board = book.boardWith(round, player);
        switch (what) {
            case 0: return board < 0 ? LACKING : book.otherAt(round, board, player);
            case 1: return board < 0 ? LACKING : book.colourAt(round, board, player);
            case 2: return round < book.countDone() ? pointsMade(player, round, board) : LACKING;
            default: return NONE;
        }
    }

    private int pointsMade(int player, int round, int board) {
        if (board < 0) {
            return book.byes.at(round) == player ? 2 : 0;
        }
        return pointsFor(book.outcomeFor(round, board, player));
    }

    public int average(int player, int part) {
        if (!isPlayer(player) || part < 0 || part > 1) {
            return NONE;
        }
        int count = table.played.at(player);
        if (count == 0) {
            return part;
        }
        int sum = table.sumRatings(player);
        int divisor = commonDivisor(sum, count);
        return part == 0 ? sum / divisor : count / divisor;
    }

    /** Of a count above 0, so that the divisor is never 0; it divides a sum of 0, too. */
    private static int commonDivisor(int sum, int count) {
        for (int divisor = count; divisor > 1; divisor--) {
            if (count % divisor == 0 && sum % divisor == 0) {
                return divisor;
            }
        }
        return 1;
    }

    // Texts

    public int feed(int letter) {
        if (letter < 1 || letter > MOST_BYTE) {
            return BAD;
        }
        if (tape.length >= MOST_TAPE) {
            return FULL;
        }
        tape.append(letter);
        return tape.length;
    }

    public int clear() {
        int before = tape.length;
        tape.length = 0;
        return before;
    }

    public int results() {
        int answer = book.open ? readResults() : STATE;
        tape.length = 0;
        return answer;
    }

    private int readResults() {
        int round = book.rounds - 1;
        int boards = book.boards.at(round);
        int fault = faultOfResults(boards);
        if (fault != LACKING) {
            return TEXT_FAULT - fault;
        }
        for (int board = 0; board < boards; board++) {
            int outcome = RESULT_LETTERS.indexOf((char) tape.byteAt(board));
            if (outcome > 0) {
                book.outcomes.put(Book.boardCell(round, board), outcome);
            }
        }
        return book.countOutcomes(round);
    }

    private int faultOfResults(int boards) {
        for (int i = 0; i < boards; i++) {
            if (i >= tape.length || RESULT_LETTERS.indexOf((char) tape.byteAt(i)) < 0) {
                return i;
            }
        }
        return tape.length > boards ? boards : LACKING;
    }

    public int order() {
        int fault = faultOfOrder();
        if (fault == LACKING) {
            readOrder();
            table.reckon();
        }
        tape.length = 0;
        return fault == LACKING ? book.breaks : TEXT_FAULT - fault;
    }

    private int faultOfOrder() {
        int seen = 0;
        for (int i = 0; i < tape.length; i++) {
            int place = ORDER_LETTERS.indexOf((char) tape.byteAt(i));
            if (place < 0 || (seen >> place & 1) != 0) {
                return i;
            }
            seen |= 1 << place;
        }
        return tape.length == 0 ? 0 : LACKING;
    }

    private void readOrder() {
        for (int i = 0; i < tape.length; i++) {
            book.breakOrder.put(i + 1, ORDER_LETTERS.indexOf((char) tape.byteAt(i)) + 1);
        }
        book.breaks = tape.length + 1;
    }

    public int ordered(int i) {
        if (i < 0) {
            return NONE;
        }
        return i < book.breaks ? book.breakOrder.at(i) : LACKING;
    }

    public int line(int player) {
        if (!isPlayer(player)) {
            return NONE;
        }
        sheet.length = 0;
        sheet.appendNumber(player);
        sheet.append(' ');
        writeHalved(table.tieOf(player, POINTS));
        for (int round = 0; round < book.countDone(); round++) {
            sheet.append(' ');
            writeRound(player, round);
        }
        return sheet.length;
    }

    private void writeHalved(int points) {
        sheet.appendNumber(points / 2);
        if (points % 2 != 0) {
            sheet.append('.');
            sheet.append('5');
        }
    }

    private void writeRound(int player, int round) {
        int board = book.boardWith(round, player);
        if (board < 0) {
            sheet.append(book.byes.at(round) == player ? 'B' : 'z');
            return;
        }
        sheet.appendNumber(book.otherAt(round, board, player));
        sheet.append(markFor(book.outcomeFor(round, board, player)));
    }

    private static char markFor(int outcome) {
        switch (outcome) {
            case WON: return '1';
            case DRAWN: return '=';
            case LOST: return '0';
            case WON_BY_FORFEIT: return '+';
            default: return '-';
        }
    }

    public int paper(int i) {
        return i >= 0 && i < sheet.length ? sheet.byteAt(i) : NONE;
    }

    public int told(int what) {
        switch (what) {
            case 0: return book.players;
            case 1: return book.countInside();
            case 2: return book.rounds;
            case 3: return book.countDone();
            case 4: return book.open ? book.boards.at(book.rounds - 1) : LACKING;
            case 5: return tape.length;
            case 6: return sheet.length;
            case 7: return table.countMeetings();
            case 8: return table.sumPoints();
            default: return NONE;
        }
    }

    // LISTS

    public int list(int list, int n) {
        if (!Shelf.isList(list)) {
            return NONE;
        }
        if (n > MOST_PLACES) {
            return BAD;
        }
        if (n < 0) {
            return BELOW;
        }
        shelf.hold(list, n);
        return 1;
    }

    public int set(int list, int i, int v) {
        int refusal = refusalOfList(list);
        if (refusal != 0) {
            return refusal;
        }
        if (!shelf.hasPlace(list, i)) {
            return BEYOND;
        }
        shelf.putAt(list, i, v);
        return 1;
    }

    public int get(int list, int i) {
        if (refusalOfList(list) != 0 || !shelf.hasPlace(list, i)) {
            return NO_VALUE;
        }
        return shelf.valueAt(list, i);
    }

    public int lay(int list, int i) {
        int refusal = refusalOfList(list);
        if (refusal != 0) {
            return refusal;
        }
        for (int rank = 0; rank < book.players; rank++) {
            if (!shelf.hasPlace(list, i + rank)) {
                return BEYOND;
            }
            shelf.putAt(list, i + rank, table.standing.at(rank));
        }
        return book.players;
    }

    public int judge(int list, int i) {
        int refusal = refusalOfList(list);
        if (refusal != 0) {
            return refusal;
        }
        for (int rank = 0; rank < book.players; rank++) {
            if (!shelf.hasPlace(list, i + rank)) {
                return ENDED + rank;
            }
            if (shelf.valueAt(list, i + rank) != table.standing.at(rank)) {
                return rank;
            }
        }
        return LACKING;
    }

    /** NONE, NOTHING, or 0. */
    private int refusalOfList(int list) {
        if (!Shelf.isList(list)) {
            return NONE;
        }
        return shelf.isHeld(list) ? 0 : NOTHING;
    }

    // THE IMAGE

    public int image() {
        saved.copy(book);
        isSaved = true;
        return book.rounds;
    }

    public int undo() {
        if (!isSaved) {
            return STATE;
        }
        book.copy(saved);
        table.reckon();
        return book.rounds;
    }

    // What arguments and RESULTS are

    private static boolean isRating(int rating) {
        return rating >= 0 && rating <= MOST_RATING;
    }

    /** Places in the STANDING are as many as PLAYERS, so this tells of them, too. */
    private boolean isPlayer(int player) {
        return player >= 0 && player < book.players;
    }

    private boolean areTwo(int one, int other) {
        return isPlayer(one) && isPlayer(other) && one != other;
    }

    private boolean isRound(int round) {
        return round >= 0 && round < book.rounds;
    }

    /** A RESULT as BLACK sees it: what is WHITE's win is his loss. */
    private static int mirrored(int outcome) {
        switch (outcome) {
            case WON: return LOST;
            case LOST: return WON;
            case WON_BY_FORFEIT: return LOST_BY_FORFEIT;
            case LOST_BY_FORFEIT: return WON_BY_FORFEIT;
            default: return outcome;
        }
    }

    private static int pointsFor(int outcome) {
        if (outcome == WON || outcome == WON_BY_FORFEIT) {
            return 2;
        }
        return outcome == DRAWN ? 1 : 0;
    }

    private static boolean isOverTheBoard(int outcome) {
        return outcome >= WON && outcome <= LOST;
    }

    /** Ints in a fixed number of places: a place that isn't there reads as 0 and takes nothing, so no index throws. */
    private static final class Row {
        private final int[] cells;

        Row(int size) {
            cells = new int[Math.max(0, size)];
        }

        int at(int i) {
            return i >= 0 && i < cells.length ? cells[i] : 0;
        }

        void put(int i, int v) {
            if (i >= 0 && i < cells.length) {
                cells[i] = v;
            }
        }

        void add(int i, int v) {
            if (i >= 0 && i < cells.length) {
                cells[i] += v;
            }
        }

        void fill(int v) {
            for (int i = 0; i < cells.length; i++) {
                cells[i] = v;
            }
        }

        void copy(Row from) {
            for (int i = 0; i < cells.length; i++) {
                cells[i] = from.at(i);
            }
        }
    }

    /** Bytes one behind the other: THE TAPE, THE PAPER. */
    private static final class Text {
        private final Row bytes;
        private int length;

        Text(int most) {
            bytes = new Row(most);
        }

        int byteAt(int i) {
            return bytes.at(i);
        }

        void append(int letter) {
            bytes.put(length, letter);
            length++;
        }

        /** No number of a LINE has more than two digits. */
        void appendNumber(int number) {
            if (number >= 10) {
                append('0' + number / 10);
            }
            append('0' + number % 10);
        }
    }

    /** LISTS. */
    private static final class Shelf {
        private static final int NOT_HELD = -1;
        private final Row sizes = new Row(LISTS);
        private final Row cells = new Row(LISTS * MOST_PLACES);

        Shelf() {
            sizes.fill(NOT_HELD);
        }

        static boolean isList(int list) {
            return list >= 0 && list < LISTS;
        }

        boolean isHeld(int list) {
            return sizes.at(list) != NOT_HELD;
        }

        boolean hasPlace(int list, int i) {
            return i >= 0 && i < sizes.at(list);
        }

        void hold(int list, int size) {
            sizes.put(list, size);
            for (int i = 0; i < size; i++) {
                putAt(list, i, 0);
            }
        }

        int valueAt(int list, int i) {
            return cells.at(list * MOST_PLACES + i);
        }

        void putAt(int list, int i, int v) {
            cells.put(list * MOST_PLACES + i, v);
        }
    }

    /** All that THE IMAGE keeps: PLAYERS, ROUNDS, ORDER. Everything else is reckoned from it. */
    private static final class Book {
        private int players;
        private final Row ratings = new Row(MOST_PLAYERS);
        private final Row inside = new Row(MOST_PLAYERS);
        private int rounds;
        private boolean open;
        private final Row boards = new Row(MOST_ROUNDS);
        private final Row byes = new Row(MOST_ROUNDS);
        private final Row whites = new Row(MOST_ROUNDS * MOST_BOARDS);
        private final Row blacks = new Row(MOST_ROUNDS * MOST_BOARDS);
        private final Row outcomes = new Row(MOST_ROUNDS * MOST_BOARDS);
        private int breaks = 5;
        private final Row breakOrder = new Row(TIE_BREAKS);

        Book() {
            breakOrder.put(0, POINTS);
            breakOrder.put(1, OPPONENTS);
            breakOrder.put(2, BEATEN);
            breakOrder.put(3, WINS);
            breakOrder.put(4, RATING);
        }

        void copy(Book from) {
            players = from.players;
            ratings.copy(from.ratings);
            inside.copy(from.inside);
            rounds = from.rounds;
            open = from.open;
            boards.copy(from.boards);
            byes.copy(from.byes);
            whites.copy(from.whites);
            blacks.copy(from.blacks);
            outcomes.copy(from.outcomes);
            breaks = from.breaks;
            breakOrder.copy(from.breakOrder);
        }

        int enter(int rating) {
            int player = players;
            ratings.put(player, rating);
            inside.put(player, 1);
            players++;
            return player;
        }

        int countInside() {
            int count = 0;
            for (int player = 0; player < players; player++) {
                count += inside.at(player);
            }
            return count;
        }

        int countDone() {
            return open ? rounds - 1 : rounds;
        }

        static int boardCell(int round, int board) {
            return round * MOST_BOARDS + board;
        }

        int countOutcomes(int round) {
            int count = 0;
            for (int board = 0; board < boards.at(round); board++) {
                if (outcomes.at(boardCell(round, board)) != 0) {
                    count++;
                }
            }
            return count;
        }

        void startRound(int resting) {
            boards.put(rounds, 0);
            byes.put(rounds, resting);
            rounds++;
            open = true;
        }

        void addBoard(int white, int black) {
            int round = rounds - 1;
            int cell = boardCell(round, boards.at(round));
            whites.put(cell, white);
            blacks.put(cell, black);
            outcomes.put(cell, 0);
            boards.add(round, 1);
        }

        /** The BOARD of a PLAYER in a ROUND, or LACKING. */
        int boardWith(int round, int player) {
            for (int board = 0; board < boards.at(round); board++) {
                int cell = boardCell(round, board);
                if (whites.at(cell) == player || blacks.at(cell) == player) {
                    return board;
                }
            }
            return LACKING;
        }

        int colourAt(int round, int board, int player) {
            return whites.at(boardCell(round, board)) == player ? WHITE : BLACK;
        }

        int otherAt(int round, int board, int player) {
            int cell = boardCell(round, board);
            return whites.at(cell) == player ? blacks.at(cell) : whites.at(cell);
        }

        int outcomeFor(int round, int board, int player) {
            int outcome = outcomes.at(boardCell(round, board));
            return colourAt(round, board, player) == WHITE ? outcome : mirrored(outcome);
        }
    }

    /** What DONE ROUNDS, RATINGS and ORDER make of each PLAYER; it holds until one of these changes. */
    private static final class Table {
        private final Book book;
        private final Row ties = new Row(MOST_PLAYERS * TIE_BREAKS);
        private final Row played = new Row(MOST_PLAYERS);
        private final Row balances = new Row(MOST_PLAYERS);
        private final Row latest = new Row(MOST_PLAYERS);
        private final Row byes = new Row(MOST_PLAYERS);
        private final Row forfeits = new Row(MOST_PLAYERS);
        private final Row meetings = new Row(MOST_PLAYERS * MOST_PLAYERS);
        private final Row made = new Row(MOST_PLAYERS * MOST_PLAYERS);
        private final Row standing = new Row(MOST_PLAYERS);

        Table(Book book) {
            this.book = book;
        }

        int tieOf(int player, int which) {
            return ties.at(player * TIE_BREAKS + which);
        }

        private void addTie(int player, int which, int more) {
            ties.add(player * TIE_BREAKS + which, more);
        }

        private static int twoCell(int one, int other) {
            return one * MOST_PLAYERS + other;
        }

        /** The ROUND in which they MET, or LACKING. */
        int meetingOf(int one, int other) {
            return meetings.at(twoCell(one, other));
        }

        boolean haveMet(int one, int other) {
            return meetingOf(one, other) != LACKING;
        }

        int madeAgainst(int one, int other) {
            return made.at(twoCell(one, other));
        }

        void reckon() {
            wipe();
            for (int round = 0; round < book.countDone(); round++) {
                countRound(round);
            }
            for (int player = 0; player < book.players; player++) {
                compareWithOpponents(player);
                addTie(player, RATING, book.ratings.at(player));
            }
            stand();
        }

        private void wipe() {
            ties.fill(0);
            played.fill(0);
            balances.fill(0);
            latest.fill(LACKING);
            byes.fill(0);
            forfeits.fill(0);
            meetings.fill(LACKING);
            made.fill(0);
        }

        private void countRound(int round) {
            for (int board = 0; board < book.boards.at(round); board++) {
                int cell = Book.boardCell(round, board);
                countSide(round, board, book.whites.at(cell));
                countSide(round, board, book.blacks.at(cell));
            }
            int resting = book.byes.at(round);
            if (resting != LACKING) {
                byes.add(resting, 1);
                addTie(resting, POINTS, 2);
            }
            for (int player = 0; player < book.players; player++) {
                addTie(player, GROWTH, tieOf(player, POINTS));
            }
        }

        private void countSide(int round, int board, int player) {
            int outcome = book.outcomeFor(round, board, player);
            addTie(player, POINTS, pointsFor(outcome));
            if (outcome == WON_BY_FORFEIT) {
                forfeits.add(player, 1);
            }
            if (isOverTheBoard(outcome)) {
                countPlayed(round, board, player);
            }
        }

        private void countPlayed(int round, int board, int player) {
            int outcome = book.outcomeFor(round, board, player);
            int colour = book.colourAt(round, board, player);
            int cell = twoCell(player, book.otherAt(round, board, player));
            played.add(player, 1);
            latest.put(player, colour);
            balances.add(player, colour == WHITE ? 1 : -1);
            addTie(player, BLACKS, colour == BLACK ? 1 : 0);
            addTie(player, WINS, outcome == WON ? 1 : 0);
            meetings.put(cell, round);
            made.put(cell, pointsFor(outcome));
        }

        /** Two meet once at most, so each opponent stands for one BOARD. */
        private void compareWithOpponents(int player) {
            int points = tieOf(player, POINTS);
            int fewest = NONE;
            for (int other = 0; other < book.players; other++) {
                if (haveMet(player, other)) {
                    int theirs = tieOf(other, POINTS);
                    int against = madeAgainst(player, other);
                    addTie(player, OPPONENTS, theirs);
                    addTie(player, BEATEN, against * theirs);
                    addTie(player, DIRECT, theirs == points ? against : 0);
                    fewest = fewest == NONE ? theirs : Math.min(fewest, theirs);
                }
            }
            addTie(player, CUT, tieOf(player, OPPONENTS) - Math.max(0, fewest));
        }

        private void stand() {
            for (int player = 0; player < book.players; player++) {
                int place = player;
                while (place > 0 && isAhead(player, standing.at(place - 1))) {
                    standing.put(place, standing.at(place - 1));
                    place--;
                }
                standing.put(place, player);
            }
        }

        private boolean isAhead(int one, int other) {
            int which = firstDifference(one, other);
            return which == LACKING ? one < other : tieOf(one, which) > tieOf(other, which);
        }

        /** The first TIE-BREAK of ORDER in which two differ, or LACKING. */
        int firstDifference(int one, int other) {
            for (int i = 0; i < book.breaks; i++) {
                int which = book.breakOrder.at(i);
                if (tieOf(one, which) != tieOf(other, which)) {
                    return which;
                }
            }
            return LACKING;
        }

        int placeOf(int player) {
            for (int place = 0; place < book.players; place++) {
                if (standing.at(place) == player) {
                    return place;
                }
            }
            return NONE;
        }

        int countMet(int player) {
            int count = 0;
            for (int other = 0; other < book.players; other++) {
                if (haveMet(player, other)) {
                    count++;
                }
            }
            return count;
        }

        int countMeetings() {
            int sides = 0;
            for (int player = 0; player < book.players; player++) {
                sides += countMet(player);
            }
            return sides / 2;
        }

        int sumPoints() {
            int sum = 0;
            for (int player = 0; player < book.players; player++) {
                sum += tieOf(player, POINTS);
            }
            return sum;
        }

        int sumRatings(int player) {
            int sum = 0;
            for (int other = 0; other < book.players; other++) {
                if (haveMet(player, other)) {
                    sum += book.ratings.at(other);
                }
            }
            return sum;
        }

        /** COST of two, or LACKING if they have MET. */
        int costOf(int one, int other) {
            if (haveMet(one, other)) {
                return LACKING;
            }
            int sum = 10 * Math.abs(tieOf(one, POINTS) - tieOf(other, POINTS));
            if (balances.at(one) * balances.at(other) > 0) {
                sum += 3;
            }
            if (latest.at(one) != LACKING && latest.at(one) == latest.at(other)) {
                sum += 1;
            }
            return sum;
        }
    }

    /**
     * PAIRING of those who are IN, seated by the STANDING without him who has the BYE. A set of seats is a number with
     * a bit for each; its first seat is paired with one of the others, and what is left is a lesser number.
     */
    private static final class Pairing {
        private final Book book;
        private final Table table;
        private final Row seats = new Row(MOST_PLAYERS);
        private int count;
        private int resting;
        private final Row costs = new Row(MOST_PLAYERS * MOST_PLAYERS);
        /** The least COSTS of a set, or NO_PAIRING; those of the empty set are 0 and stay so. */
        private final Row sums = new Row(SEAT_SETS);
        /** In how many ways a set can be put in twos. */
        private final Row numbers = new Row(SEAT_SETS);

        Pairing(Book book, Table table) {
            this.book = book;
            this.table = table;
        }

        void arrange() {
            seatAll();
            giveBye();
            noteCosts();
            numbers.put(0, 1);
            int whole = wholeSet();
            for (int set = 1; set <= whole; set++) {
                if (isReached(set)) {
                    weigh(set);
                }
            }
        }

        int leastCost() {
            return sums.at(wholeSet());
        }

        int countWays() {
            return numbers.at(wholeSet());
        }

        void openRound() {
            book.startRound(resting);
            int left = wholeSet();
            for (int board = 0; board < count / 2; board++) {
                int first = firstSeat(left);
                int mate = earliestMate(left);
                seatBoard(board, seats.at(first), seats.at(mate));
                left = without(left, first, mate);
            }
        }

        private int wholeSet() {
            return (1 << count) - 1;
        }

        private static int firstSeat(int set) {
            return Integer.bitCount((set & -set) - 1);
        }

        private static int without(int set, int one, int other) {
            return set & ~(1 << one) & ~(1 << other);
        }

        private void seatAll() {
            count = 0;
            for (int place = 0; place < book.players; place++) {
                int player = table.standing.at(place);
                if (book.inside.at(player) == 1) {
                    seats.put(count, player);
                    count++;
                }
            }
        }

        private void giveBye() {
            resting = LACKING;
            if (count % 2 == 0) {
                return;
            }
            int seat = seatOfBye();
            resting = seats.at(seat);
            count--;
            for (int i = seat; i < count; i++) {
                seats.put(i, seats.at(i + 1));
            }
        }

        private int seatOfBye() {
            for (int seat = count - 1; seat >= 0; seat--) {
                int player = seats.at(seat);
                if (table.byes.at(player) == 0 && table.forfeits.at(player) == 0) {
                    return seat;
                }
            }
            return count - 1;
        }

        private void noteCosts() {
            for (int one = 0; one < count; one++) {
                for (int other = one + 1; other < count; other++) {
                    costs.put(one * MOST_PLAYERS + other, table.costOf(seats.at(one), seats.at(other)));
                }
            }
        }

        /** With k twos taken from the front, at least the k first seats are empty: the other sets never come up. */
        private boolean isReached(int set) {
            int taken = count - Integer.bitCount(set);
            return taken % 2 == 0 && firstSeat(set) >= taken / 2;
        }

        private void weigh(int set) {
            int first = firstSeat(set);
            int best = NO_PAIRING;
            int number = 0;
            for (int mate = first + 1; mate < count; mate++) {
                int sum = sumWith(set, first, mate);
                if (sum != NO_PAIRING) {
                    number += numbers.at(without(set, first, mate));
                    best = best == NO_PAIRING ? sum : Math.min(best, sum);
                }
            }
            sums.put(set, best);
            numbers.put(set, number);
        }

        /** The least COSTS of a set if its first seat has this mate, or NO_PAIRING. */
        private int sumWith(int set, int first, int mate) {
            int between = costs.at(first * MOST_PLAYERS + mate);
            int rest = sums.at(without(set, first, mate));
            if ((set >> mate & 1) == 0 || between == LACKING || rest == NO_PAIRING) {
                return NO_PAIRING;
            }
            return between + rest;
        }

        private int earliestMate(int set) {
            int first = firstSeat(set);
            for (int mate = first + 1; mate < count; mate++) {
                int sum = sumWith(set, first, mate);
                if (sum != NO_PAIRING && sum == sums.at(set)) {
                    return mate;
                }
            }
            return first;
        }

        private void seatBoard(int board, int ahead, int behind) {
            if (hasWhite(board, ahead, behind)) {
                book.addBoard(ahead, behind);
            } else {
                book.addBoard(behind, ahead);
            }
        }

        private boolean hasWhite(int board, int ahead, int behind) {
            int balance = table.balances.at(ahead);
            int others = table.balances.at(behind);
            if (balance != others) {
                return balance < others;
            }
            boolean hadBlack = table.latest.at(ahead) == BLACK;
            boolean otherHadBlack = table.latest.at(behind) == BLACK;
            if (hadBlack != otherHadBlack) {
                return hadBlack;
            }
            return board % 2 == 0;
        }
    }
}
