import java.util.Arrays;

/**
 * Boards of foam over a county that hail dents: what they, the radar and the
 * claims tell, as known in any hour. The words in the comments are those of
 * the document's "Terms".
 */
public final class HailPads {
    /** There is none. */
    public static final int NONE = -1;

    private static final int NOTHING = -1000;
    private static final int NOT_YET = -2;

    private static final int BAD_NUMBER = -1;
    private static final int NO_SUCH = -2;
    private static final int NO_ROOM = -5;
    private static final int BAD_TEXT = -6;

    private static final int MOST_BOARDS = 30;
    private static final int MOST_DENTS = 300;
    private static final int MOST_CLAIMS = 40;
    private static final int MOST_RULES = 20;
    private static final int MOST_BYTES = 200;
    private static final int NUMBERS = 10;
    private static final int HANDS = 8;
    private static final int CELLS = MOST_BOARDS * NUMBERS;
    private static final int ROWS = 8;
    private static final int SQUARES = 8;
    private static final int SQUARE_SIDE = 8;
    private static final int NEAR = 3;

    private static final int LAST_PLACE = 63;
    private static final int LAST_HOUR = 1000;
    private static final int WIDEST = 400;
    private static final int HUNDRED = 100;
    private static final int WIDEST_TRACK = 20;
    private static final int MOST_WORTH = 100000;

    private final Boards boards = new Boards();
    private final Dents dents = new Dents();
    private final SizeTable sizes = new SizeTable();
    private final View view = new View(boards, dents, sizes);
    private final Track latest = new Track(boards);
    private final CountyMap county = new CountyMap(boards, view);
    private final RadarSquares squares = new RadarSquares();
    private final Tape tape = new Tape();
    private final RuleReader reader = new RuleReader(tape);
    private final Claims claims = new Claims();
    private RuleBook book = new RuleBook();
    private RuleBook draft = new RuleBook();
    private int faultPlace = NONE;
    private int refusal = 0;

    public HailPads() {
    }

    public int board(int x, int y) {
        if (!isPlace(x, y)) {
            return refused(BAD_NUMBER);
        }
        if (boards.told >= MOST_BOARDS) {
            return refused(NO_ROOM);
        }
        return taken(boards.add(x, y));
    }

    public int dent(int board, int number, int hand, int width, int known) {
        if (!isIn(number, 0, NUMBERS - 1) || !isIn(hand, 0, HANDS - 1)
                || !isIn(width, 1, WIDEST) || !isHour(known)) {
            return refused(BAD_NUMBER);
        }
        if (!boards.has(board)) {
            return refused(NO_SUCH);
        }
        if (dents.told >= MOST_DENTS) {
            return refused(NO_ROOM);
        }
        view.forget();
        return taken(dents.add(board * NUMBERS + number, hand, width, known));
    }

    public int clear(int board, int known) {
        if (!isHour(known)) {
            return refused(BAD_NUMBER);
        }
        if (!boards.has(board)) {
            return refused(NO_SUCH);
        }
        boards.makeClear(board, known);
        return taken(0);
    }

    public int table(int k, int width, int size) {
        if (!isIn(k, 0, ROWS - 1) || !isIn(width, 0, WIDEST) || !isSize(size)) {
            return refused(BAD_NUMBER);
        }
        sizes.put(k, width, size);
        return taken(0);
    }

    public int of(int board, int number, int known, int what) {
        if (!boards.has(board) || !isIn(number, 0, NUMBERS - 1) || !isHour(known)) {
            return NONE;
        }
        view.show(known);
        int cell = board * NUMBERS + number;
        if (view.handsOf(cell) == 0) {
            return NONE;
        }
        switch (what) {
            case 0:
                return view.rawWidth(cell);
            case 1:
                return view.trueWidth(cell);
            case 2:
                return sizes.sizeFor(view.trueWidth(cell));
            case 3:
                return view.handsOf(cell);
            default:
                return NONE;
        }
    }

    public int leaning(int hand, int known) {
        if (!isIn(hand, 0, HANDS - 1) || !isHour(known)) {
            return NOTHING;
        }
        view.show(known);
        return view.leaningOf(hand);
    }

    public int seen(int board, int known, int what) {
        if (!boards.has(board) || !isHour(known)) {
            return NONE;
        }
        view.show(known);
        switch (what) {
            case 0:
                return view.isSeen(board) ? view.boardSize(board) : NONE;
            case 1:
                return view.many(board);
            case 2:
                return view.isSeen(board) ? 1 : 0;
            default:
                return NONE;
        }
    }

    public int track(int size, int width, int known) {
        if (!isSize(size) || !isIn(width, 0, WIDEST_TRACK) || !isHour(known)) {
            return NONE;
        }
        view.show(known);
        for (int b = 0; b < boards.told; b++) {
            latest.mark(b, view.isSeen(b) && view.boardSize(b) >= size);
        }
        return latest.draw(width);
    }

    public int through(int which) {
        if (which == 0) {
            return latest.lower;
        }
        return which == 1 ? latest.other : NONE;
    }

    public int within(int board) {
        if (!boards.has(board) || !latest.isDrawn()) {
            return NONE;
        }
        return latest.reaches(board) ? 1 : 0;
    }

    public int map(int x, int y, int known, int what) {
        if (!isPlace(x, y) || !isHour(known) || !isIn(what, 0, 1)) {
            return NONE;
        }
        view.show(known);
        if (!county.look(x, y)) {
            return NONE;
        }
        return what == 0 ? county.size() : county.sure();
    }

    public int radar(int i, int k, int size) {
        if (!isIn(i, 0, SQUARES - 1) || !isIn(k, 0, SQUARES - 1) || !isIn(size, NONE, HUNDRED)) {
            return refused(BAD_NUMBER);
        }
        squares.put(i, k, size);
        return taken(0);
    }

    public int off(int x, int y, int known) {
        if (!isPlace(x, y) || !isHour(known)) {
            return NOTHING;
        }
        int told = squares.sizeAt(x, y);
        if (told == NONE) {
            return NOTHING;
        }
        view.show(known);
        return county.look(x, y) ? told - county.size() : NOTHING;
    }

    public int feed(int a, int b, int c, int d, int e) {
        if (!tape.hasRoomFor(20)) {
            return NONE;
        }
        tape.append(a);
        tape.append(b);
        tape.append(c);
        tape.append(d);
        tape.append(e);
        return tape.length;
    }

    public int end(int n) {
        if (!isIn(n, 0, tape.length)) {
            return NONE;
        }
        tape.length = n;
        return n;
    }

    public int rules() {
        faultPlace = reader.read(draft);
        tape.length = 0;
        if (faultPlace != NONE) {
            return refused(BAD_TEXT);
        }
        RuleBook old = book;
        book = draft;
        draft = old;
        return taken(book.told);
    }

    public int fault() {
        return faultPlace;
    }

    public int claim(int x, int y, int worth, int said) {
        if (!isPlace(x, y) || !isIn(worth, 0, MOST_WORTH) || !isIn(said, 0, HUNDRED)) {
            return refused(BAD_NUMBER);
        }
        if (claims.told >= MOST_CLAIMS) {
            return refused(NO_ROOM);
        }
        return taken(claims.add(x, y, worth, said));
    }

    public int judged(int claim, int known) {
        if (!claims.has(claim) || !isHour(known)) {
            return NONE;
        }
        int x = claims.x[claim];
        int y = claims.y[claim];
        view.show(known);
        if (!county.look(x, y)) {
            return NOT_YET;
        }
        int told = squares.sizeAt(x, y);
        if (told != NONE && book.holdsBack(told - county.size())) {
            return NOT_YET;
        }
        int lost = Math.min(book.lossFor(county.size(), county.sure()), claims.said[claim]);
        int part = Math.max(0, lost - book.bear);
        return claims.worth[claim] * part / HUNDRED;
    }

    public int quarrel(int board, int known) {
        if (!boards.has(board) || !isHour(known)) {
            return NONE;
        }
        view.show(known);
        int most = 0;
        for (int n = 0; n < NUMBERS; n++) {
            most = Math.max(most, view.spread(board * NUMBERS + n));
        }
        return most;
    }

    public int count(int what) {
        switch (what) {
            case 0:
                return boards.told;
            case 1:
                return dents.told;
            case 2:
                return book.told;
            case 3:
                return claims.told;
            case 4:
                return tape.length;
            case 5:
                return squares.howManyTold();
            default:
                return NONE;
        }
    }

    public int status() {
        return refusal;
    }

    private int refused(int why) {
        refusal = why;
        return why;
    }

    private int taken(int answer) {
        refusal = 0;
        return answer;
    }

    private static boolean isIn(int n, int least, int most) {
        return n >= least && n <= most;
    }

    private static boolean isPlace(int x, int y) {
        return isIn(x, 0, LAST_PLACE) && isIn(y, 0, LAST_PLACE);
    }

    private static boolean isHour(int known) {
        return isIn(known, 0, LAST_HOUR);
    }

    private static boolean isSize(int size) {
        return isIn(size, 0, HUNDRED);
    }

    /** The BOARDS: their places, and from when on they are CLEAR. */
    private static final class Boards {
        final int[] x = new int[MOST_BOARDS];
        final int[] y = new int[MOST_BOARDS];
        final int[] clearFrom = new int[MOST_BOARDS];
        int told = 0;

        boolean has(int board) {
            return isIn(board, 0, told - 1);
        }

        int add(int atX, int atY) {
            if (told >= MOST_BOARDS) {
                return NONE;
            }
            x[told] = atX;
            y[told] = atY;
            clearFrom[told] = LAST_HOUR + 1;
            told++;
            return told - 1;
        }

        void makeClear(int board, int known) {
            if (has(board)) {
                clearFrom[board] = Math.min(clearFrom[board], known);
            }
        }
    }

    /** The DENTS in the order in which they were told; a cell is a BOARD and a number. */
    private static final class Dents {
        final int[] cell = new int[MOST_DENTS];
        final int[] hand = new int[MOST_DENTS];
        final int[] width = new int[MOST_DENTS];
        final int[] known = new int[MOST_DENTS];
        int told = 0;

        int add(int itsCell, int itsHand, int itsWidth, int from) {
            if (told >= MOST_DENTS) {
                return told;
            }
            cell[told] = itsCell;
            hand[told] = itsHand;
            width[told] = itsWidth;
            known[told] = from;
            told++;
            return told;
        }
    }

    /** The TABLE. */
    private static final class SizeTable {
        private final int[] width = new int[ROWS];
        private final int[] size = new int[ROWS];

        void put(int k, int from, int stone) {
            if (isIn(k, 0, ROWS - 1)) {
                width[k] = from;
                size[k] = stone;
            }
        }

        int sizeFor(int wide) {
            int best = NONE;
            for (int k = 0; k < ROWS; k++) {
                // not below, so that of alike rows the later one counts
                if (width[k] <= wide && (best == NONE || width[k] >= width[best])) {
                    best = k;
                }
            }
            return best == NONE ? 0 : size[best];
        }
    }

    /** The dents as known in the HOUR that was shown last. */
    private static final class View {
        private final Boards boards;
        private final Dents dents;
        private final SizeTable sizes;
        private final int[] widths = new int[CELLS * HANDS];
        private final int[] hands = new int[CELLS];
        private final int[] raw = new int[CELLS];
        private final int[] leanings = new int[HANDS];
        private final int[] row = new int[CELLS];
        private int hour = NONE;
        // The rows above are worked out for this HOUR; NONE, if DENTS came since.
        private int workedOut = NONE;

        View(Boards itsBoards, Dents itsDents, SizeTable itsSizes) {
            boards = itsBoards;
            dents = itsDents;
            sizes = itsSizes;
        }

        void forget() {
            workedOut = NONE;
        }

        void show(int known) {
            hour = known;
            if (workedOut == known) {
                return;
            }
            workedOut = known;
            placeWidths();
            int cells = cellsInUse();
            for (int cell = 0; cell < cells; cell++) {
                raw[cell] = hands[cell] == 0 ? 0 : middleLess(cell, false);
            }
            for (int hand = 0; hand < HANDS; hand++) {
                leanings[hand] = findLeaning(hand);
            }
        }

        private void placeWidths() {
            Arrays.fill(widths, 0);
            Arrays.fill(hands, 0);
            for (int d = 0; d < dents.told; d++) {
                if (dents.known[d] <= hour) {
                    placeWidth(dents.cell[d], dents.hand[d], dents.width[d]);
                }
            }
        }

        private void placeWidth(int cell, int hand, int width) {
            if (!isCell(cell) || !isIn(hand, 0, HANDS - 1)) {
                return;
            }
            int at = cell * HANDS + hand;
            if (widths[at] == 0) {
                hands[cell]++;
            }
            widths[at] = width;
        }

        private int findLeaning(int hand) {
            int n = 0;
            int cells = cellsInUse();
            for (int cell = 0; cell < cells; cell++) {
                int width = hands[cell] < 2 ? 0 : widths[cell * HANDS + hand];
                if (width > 0) {
                    row[n] = width - raw[cell];
                    n++;
                }
            }
            return middleOfRow(n);
        }

        /** MIDDLE of a dent's widths, as told or each less its HAND's LEANING. */
        private int middleLess(int cell, boolean leaningOff) {
            int n = 0;
            for (int hand = 0; hand < HANDS; hand++) {
                int width = widths[cell * HANDS + hand];
                if (width > 0) {
                    row[n] = leaningOff ? width - leanings[hand] : width;
                    n++;
                }
            }
            return middleOfRow(n);
        }

        private int middleOfRow(int n) {
            if (!isIn(n, 1, CELLS)) {
                return 0;
            }
            for (int k = 1; k < n; k++) {
                int moved = row[k];
                int at = k;
                while (at > 0 && row[at - 1] > moved) {
                    row[at] = row[at - 1];
                    at--;
                }
                row[at] = moved;
            }
            return row[(n - 1) / 2];
        }

        private int cellsInUse() {
            return Math.min(CELLS, boards.told * NUMBERS);
        }

        private static boolean isCell(int cell) {
            return isIn(cell, 0, CELLS - 1);
        }

        int handsOf(int cell) {
            return isCell(cell) ? hands[cell] : 0;
        }

        int rawWidth(int cell) {
            return isCell(cell) ? raw[cell] : 0;
        }

        int trueWidth(int cell) {
            return isCell(cell) ? Math.max(1, middleLess(cell, true)) : 0;
        }

        int leaningOf(int hand) {
            return isIn(hand, 0, HANDS - 1) ? leanings[hand] : NOTHING;
        }

        /** The most that two HANDS' widths of a dent differ. */
        int spread(int cell) {
            if (handsOf(cell) == 0) {
                return 0;
            }
            int least = WIDEST;
            int most = 0;
            for (int hand = 0; hand < HANDS; hand++) {
                int width = widths[cell * HANDS + hand];
                if (width > 0) {
                    least = Math.min(least, width);
                    most = Math.max(most, width);
                }
            }
            return most - least;
        }

        int many(int board) {
            int many = 0;
            for (int n = 0; n < NUMBERS; n++) {
                if (handsOf(board * NUMBERS + n) > 0) {
                    many++;
                }
            }
            return many;
        }

        boolean isSeen(int board) {
            return boards.has(board) && (boards.clearFrom[board] <= hour || many(board) > 0);
        }

        int boardSize(int board) {
            int greatest = 0;
            for (int n = 0; n < NUMBERS; n++) {
                int cell = board * NUMBERS + n;
                if (handsOf(cell) > 0) {
                    greatest = Math.max(greatest, sizes.sizeFor(trueWidth(cell)));
                }
            }
            return greatest;
        }
    }

    /** The latest TRACK: a line through two BOARDS and a width. */
    private static final class Track {
        private final Boards boards;
        private final boolean[] hit = new boolean[MOST_BOARDS];
        private int width = 0;
        int lower = NONE;
        int other = NONE;

        Track(Boards itsBoards) {
            boards = itsBoards;
        }

        void mark(int board, boolean isHit) {
            if (isIn(board, 0, MOST_BOARDS - 1)) {
                hit[board] = isHit;
            }
        }

        boolean isDrawn() {
            return lower != NONE && other != NONE;
        }

        int draw(int wide) {
            width = wide;
            lower = NONE;
            other = NONE;
            int most = 0;
            for (int i = 0; i < boards.told; i++) {
                for (int j = i + 1; j < boards.told; j++) {
                    int hits = hit[i] && hit[j] && areApart(i, j) ? hitsAlong(i, j) : 0;
                    if (hits > most) {
                        most = hits;
                        lower = i;
                        other = j;
                    }
                }
            }
            return most;
        }

        boolean reaches(int board) {
            return boards.has(board) && boards.has(lower) && boards.has(other)
                    && isNear(lower, other, board);
        }

        private boolean areApart(int i, int j) {
            return boards.x[i] != boards.x[j] || boards.y[i] != boards.y[j];
        }

        private int hitsAlong(int i, int j) {
            int hits = 0;
            for (int b = 0; b < boards.told; b++) {
                if (hit[b] && isNear(i, j, b)) {
                    hits++;
                }
            }
            return hits;
        }

        private boolean isNear(int i, int j, int board) {
            int alongX = boards.x[j] - boards.x[i];
            int alongY = boards.y[j] - boards.y[i];
            int toX = boards.x[board] - boards.x[i];
            int toY = boards.y[board] - boards.y[i];
            // the distance times the line's length, so that no root is needed
            int area = alongX * toY - alongY * toX;
            return area * area <= width * width * (alongX * alongX + alongY * alongY);
        }
    }

    /** The MAP at the place that was looked at last. */
    private static final class CountyMap {
        private static final int FULL_WEIGHT = 10000;
        private static final int LONGEST = 128;

        private final Boards boards;
        private final View view;
        private final int[] near = new int[NEAR];
        private final int[] apart = new int[NEAR];
        private final int[] stones = new int[NEAR];
        private int found = 0;

        CountyMap(Boards itsBoards, View itsView) {
            boards = itsBoards;
            view = itsView;
        }

        /** Whether there is a MAP at a place as known in the HOUR that the view shows. */
        boolean look(int x, int y) {
            found = 0;
            for (int b = 0; b < boards.told; b++) {
                if (view.isSeen(b)) {
                    int overX = boards.x[b] - x;
                    int overY = boards.y[b] - y;
                    insert(b, overX * overX + overY * overY);
                }
            }
            for (int k = 0; k < found; k++) {
                stones[k] = view.boardSize(near[k]);
            }
            return found > 0;
        }

        /** BOARDS come in by their numbers, so a later one passes only what is farther. */
        private void insert(int board, int distance) {
            if (found == NEAR && apart[NEAR - 1] <= distance) {
                return;
            }
            if (found < NEAR) {
                found++;
            }
            int at = found - 1;
            while (at > 0 && apart[at - 1] > distance) {
                near[at] = near[at - 1];
                apart[at] = apart[at - 1];
                at--;
            }
            near[at] = board;
            apart[at] = distance;
        }

        int size() {
            int weights = 0;
            int sum = 0;
            for (int k = 0; k < found; k++) {
                int weight = FULL_WEIGHT / Math.max(1, 1 + apart[k]);
                weights += weight;
                sum += weight * stones[k];
            }
            return weights == 0 ? stones[0] : sum / weights;
        }

        int sure() {
            int least = stones[0];
            int greatest = stones[0];
            for (int k = 1; k < found; k++) {
                least = Math.min(least, stones[k]);
                greatest = Math.max(greatest, stones[k]);
            }
            int sure = HUNDRED - 4 * root(apart[0]) - 10 * (NEAR - found) - (greatest - least);
            return Math.max(0, sure);
        }

        private static int root(int n) {
            int r = 0;
            while (r < LONGEST && (r + 1) * (r + 1) <= n) {
                r++;
            }
            return r;
        }
    }

    /** What RADAR told, square by square. */
    private static final class RadarSquares {
        // one above the SIZE that was told, so that 0 is an untold square
        private final int[] above = new int[SQUARES * SQUARES];

        void put(int i, int k, int size) {
            if (isIn(i, 0, SQUARES - 1) && isIn(k, 0, SQUARES - 1)) {
                above[i * SQUARES + k] = size + 1;
            }
        }

        int sizeAt(int x, int y) {
            return isPlace(x, y) ? above[x / SQUARE_SIDE * SQUARES + y / SQUARE_SIDE] - 1 : NONE;
        }

        int howManyTold() {
            int told = 0;
            for (int size : above) {
                if (size != 0) {
                    told++;
                }
            }
            return told;
        }
    }

    /** The TAPE: bytes of a TEXT that is to become the RULES. */
    private static final class Tape {
        private final int[] bytes = new int[MOST_BYTES];
        int length = 0;

        boolean hasRoomFor(int more) {
            return length + more <= MOST_BYTES;
        }

        void append(int fourBytes) {
            if (!hasRoomFor(4)) {
                return;
            }
            for (int shift = 24; shift >= 0; shift -= 8) {
                bytes[length] = fourBytes >>> shift & 255;
                length++;
            }
        }

        int byteAt(int place) {
            return place >= 0 && place < length && place < MOST_BYTES ? bytes[place] : NONE;
        }
    }

    /** The RULES, in the form in which a CLAIM is JUDGED by them. */
    private static final class RuleBook {
        private final int[] loss = new int[MOST_RULES];
        private final int[] from = new int[MOST_RULES];
        private final int[] sure = new int[MOST_RULES];
        private int losses = 0;
        int radarOff = NONE;
        int bear = 0;
        int told = 0;

        void empty() {
            losses = 0;
            radarOff = NONE;
            bear = 0;
            told = 0;
        }

        void addLoss(int part, int fromSize, int fromSure) {
            if (losses < MOST_RULES) {
                loss[losses] = part;
                from[losses] = fromSize;
                sure[losses] = fromSure;
                losses++;
            }
        }

        boolean holdsBack(int off) {
            return radarOff != NONE && Math.abs(off) > radarOff;
        }

        int lossFor(int size, int howSure) {
            int greatest = 0;
            for (int k = 0; k < losses; k++) {
                if (from[k] <= size && sure[k] <= howSure) {
                    greatest = Math.max(greatest, loss[k]);
                }
            }
            return greatest;
        }
    }

    /** Reads the TAPE, TOKEN by TOKEN. */
    private static final class RuleReader {
        private static final int BLANK = 32;
        private static final int LETTER = 1;
        private static final int DIGIT = 2;
        private static final int SINGLE = 3;

        private final Tape tape;
        // Where the present TOKEN starts (the TEXT's length at its end) and stops.
        private int start = 0;
        private int stop = 0;
        private int number = 0;

        RuleReader(Tape itsTape) {
            tape = itsTape;
        }

        /** Fills the book: NONE, or the place of the FAULT. */
        int read(RuleBook into) {
            into.empty();
            stop = 0;
            step();
            if (isAtEnd()) {
                return NONE;
            }
            for (int rule = 1; rule <= MOST_RULES; rule++) {
                if (!readRule(into)) {
                    return start;
                }
                into.told = rule;
                if (isAtEnd()) {
                    return NONE;
                }
                if (!takeWord(";")) {
                    return start;
                }
            }
            return start;
        }

        private boolean readRule(RuleBook into) {
            if (takeWord("loss")) {
                return readLoss(into);
            }
            if (takeWord("radar")) {
                if (!takeWord("off") || !takeNumber()) {
                    return false;
                }
                into.radarOff = number;
                return true;
            }
            if (!takeWord("bear") || !takeNumber()) {
                return false;
            }
            into.bear = number;
            return true;
        }

        private boolean readLoss(RuleBook into) {
            if (!takeNumber()) {
                return false;
            }
            int part = number;
            if (!takeWord("from") || !takeNumber()) {
                return false;
            }
            int fromSize = number;
            // SURE is never below 0, so 0 asks for nothing
            int fromSure = 0;
            if (takeWord("sure")) {
                if (!takeNumber()) {
                    return false;
                }
                fromSure = number;
            }
            into.addLoss(part, fromSize, fromSure);
            return true;
        }

        private boolean isAtEnd() {
            return start >= tape.length;
        }

        private void step() {
            start = stop;
            while (start < tape.length && tape.byteAt(start) == BLANK) {
                start++;
            }
            stop = start;
            if (isAtEnd()) {
                return;
            }
            int kind = kindOf(tape.byteAt(start));
            stop++;
            while (kind != SINGLE && stop < tape.length && kindOf(tape.byteAt(stop)) == kind) {
                stop++;
            }
        }

        private static int kindOf(int sign) {
            if (sign >= 'a' && sign <= 'z') {
                return LETTER;
            }
            return sign >= '0' && sign <= '9' ? DIGIT : SINGLE;
        }

        private boolean takeWord(String word) {
            if (stop - start != word.length()) {
                return false;
            }
            for (int k = 0; k < word.length(); k++) {
                if (tape.byteAt(start + k) != word.charAt(k)) {
                    return false;
                }
            }
            step();
            return true;
        }

        private boolean takeNumber() {
            if (isAtEnd() || kindOf(tape.byteAt(start)) != DIGIT) {
                return false;
            }
            int value = 0;
            for (int at = start; at < stop; at++) {
                // a long row of digits must not wrap around
                value = Math.min(HUNDRED + 1, value * 10 + tape.byteAt(at) - '0');
            }
            if (value > HUNDRED) {
                return false;
            }
            number = value;
            step();
            return true;
        }
    }

    /** The CLAIMS. */
    private static final class Claims {
        final int[] x = new int[MOST_CLAIMS];
        final int[] y = new int[MOST_CLAIMS];
        final int[] worth = new int[MOST_CLAIMS];
        final int[] said = new int[MOST_CLAIMS];
        int told = 0;

        boolean has(int claim) {
            return isIn(claim, 0, told - 1);
        }

        int add(int atX, int atY, int itsWorth, int itsSaid) {
            if (told >= MOST_CLAIMS) {
                return NONE;
            }
            x[told] = atX;
            y[told] = atY;
            worth[told] = itsWorth;
            said[told] = itsSaid;
            told++;
            return told - 1;
        }
    }
}
