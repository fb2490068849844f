/**
 * Orders through sidings: which ORDERS a train of few wagons can take through a YARD, and by which MOVES.
 *
 * <p>Inside, wagons bear the numbers of their places in the TRAIN: then what comes out does not depend on the
 * TRAIN, and one survey of a YARD answers for all TRAINS of as many wagons.
 */
public final class SidingOrders {
    public static final int UNKNOWN = -1, OUTSIDE = -2, STATE = -3, FULL = -4, NO = -5, NONE = -6;
    public static final long LOST = -1000000000000000000L;

    private static final int WAGONS = 5;
    private static final int SIDINGS = 4;
    private static final int STAGES = 3;
    private static final int LENGTHS = 5;
    private static final int SIGNS = 16;
    private static final int ENTRY = 0;
    private static final int EXIT = 5;
    private static final int PLACES = 6;
    // A wagon goes through each STAGE at most once, and then to the EXIT.
    private static final int MOST_MOVES = WAGONS * (STAGES + 1);
    // The most that one YARD has, wagons left aside, is 37: four d's in three STAGES with a - each.
    private static final int MOVE_NUMBERS = 64;
    // The ways in which five wagons can stand with four SIDINGS: 1 + 5 + 30 + 210 + 1680 + 15120.
    private static final int POSITIONS = 17046;
    // The ORDERS of 1, 2, 3, 4 and 5 wagons: 1 + 2 + 6 + 24 + 120.
    private static final int ORDERS = 153;

    private final Pad pad = new Pad();
    private final Yard yard = new Yard();
    private final Yard other = new Yard();
    private final Play play = new Play();
    private final Image imageZero = new Image();
    private final Image imageOne = new Image();
    private final Survey survey = new Survey();
    private final Search search = new Search(yard);
    private final Needs needs = new Needs();
    private final Thumbs thumbs = new Thumbs();

    public SidingOrders() {
        pad.add('s');
        pad.add('5');
        pad.layOut(yard);
        pad.clear();
        other.copyFrom(yard);
    }

    // ---- 1 yards

    public int say(int sign) {
        if (sign < 33 || sign > 126) {
            return OUTSIDE;
        }
        return pad.add(sign) ? pad.count : FULL;
    }

    public int wipe() {
        int signs = pad.count;
        pad.clear();
        return signs;
    }

    public int fault() {
        return pad.faultAt();
    }

    public int yard() {
        if (pad.faultAt() != NONE) {
            return NO;
        }
        pad.layOut(yard);
        pad.clear();
        play.on = false;
        forgetFindings();
        return yard.sidings;
    }

    public int siding(int i, int what) {
        if (i < 0 || i >= yard.sidings) {
            return UNKNOWN;
        }
        switch (what) {
            case 0:
                return yard.letterAt(i);
            case 1:
                return yard.lengthAt(i);
            case 2:
                return yard.stageAt(i);
            default:
                return OUTSIDE;
        }
    }

    public int leads(int from, int to) {
        if (isMissing(from) || isMissing(to)) {
            return UNKNOWN;
        }
        if (from < ENTRY || from >= EXIT || to <= ENTRY || to > EXIT) {
            return OUTSIDE;
        }
        return yard.reaches(from, to) ? 1 : 0;
    }

    // ---- 2 orders

    public int least(int train, int order) {
        if (!arePair(train, order)) {
            return OUTSIDE;
        }
        int found = leastOf(yard, Rows.ofNumber(train), Rows.ofNumber(order), Rows.wagons(train));
        return found > 0 ? found : NONE;
    }

    public long ways(int train, int order) {
        if (!arePair(train, order)) {
            return OUTSIDE;
        }
        int n = Rows.wagons(train);
        survey.fill(yard, n);
        return yard.outcomes.waysOf(Rows.relative(Rows.ofNumber(train), Rows.ofNumber(order), n), n);
    }

    public int first(int train, int order, int i) {
        if (!arePair(train, order)) {
            return OUTSIDE;
        }
        if (i < 0 || i >= MOST_MOVES) {
            return NONE;
        }
        int n = Rows.wagons(train);
        search.aim(yard, n, Rows.relative(Rows.ofNumber(train), Rows.ofNumber(order), n));
        return search.firstRow(i);
    }

    public int orders(int train, int k) {
        int n = Rows.wagons(train);
        if (n == 0) {
            return OUTSIDE;
        }
        int start = Rows.ofNumber(train);
        int all = Rows.factorial(n);
        int found = 0;
        for (int rank = 0; rank < all; rank++) {
            int order = Rows.ofRank(rank, n);
            if (leastOf(yard, start, order, n) > 0) {
                if (found == k) {
                    return Rows.toNumber(order);
                }
                found++;
            }
        }
        return k == -1 ? found : NONE;
    }

    // ---- 3 sorted

    public int good(int n, int what) {
        if (n < 1 || n > WAGONS || what < 0 || what > 1) {
            return OUTSIDE;
        }
        int all = Rows.factorial(n);
        int found = 0;
        for (int rank = 0; rank < all; rank++) {
            int train = Rows.ofRank(rank, n);
            if (leastSorted(yard, train, n) > 0) {
                found++;
            } else if (what == 1) {
                return Rows.toNumber(train);
            }
        }
        return what == 0 ? found : NONE;
    }

    public long mean(int n, int part) {
        if (n < 1 || n > WAGONS || part < 0 || part > 1) {
            return LOST + OUTSIDE;
        }
        int all = Rows.factorial(n);
        int found = 0;
        int sum = 0;
        for (int rank = 0; rank < all; rank++) {
            int moves = leastSorted(yard, Rows.ofRank(rank, n), n);
            if (moves > 0) {
                found++;
                sum += moves;
            }
        }
        return inLowestTerms(sum, found, part);
    }

    public int need(int train, int i) {
        if (i < -1 || i >= yard.sidings) {
            return UNKNOWN;
        }
        int n = Rows.wagons(train);
        if (n == 0) {
            return OUTSIDE;
        }
        int row = Rows.ofNumber(train);
        if (leastSorted(yard, row, n) == 0) {
            return NO;
        }
        if (needs.train != train) {
            needs.find(yard, search, n, Rows.relative(row, Rows.upTo(n), n));
            needs.train = train;
        }
        return i == -1 ? needs.sum : needs.narrow.lengthAt(i);
    }

    public int keep() {
        other.copyFrom(yard);
        return other.sidings;
    }

    public int unlike(int n) {
        if (n < 1 || n > WAGONS) {
            return OUTSIDE;
        }
        int all = Rows.factorial(n);
        for (int rank = 0; rank < all; rank++) {
            int train = Rows.ofRank(rank, n);
            boolean here = leastSorted(yard, train, n) > 0;
            boolean there = leastSorted(other, train, n) > 0;
            if (here != there) {
                return Rows.toNumber(train);
            }
        }
        return NONE;
    }

    // ---- 4 the play

    public int play(int train, int order) {
        if (!arePair(train, order)) {
            return OUTSIDE;
        }
        int n = Rows.wagons(train);
        play.begin(Rows.ofNumber(train), Rows.ofNumber(order), n);
        int found = leastOf(yard, play.train, play.order, n);
        return found > 0 ? found : NONE;
    }

    public int move(int move) {
        if (!play.on) {
            return STATE;
        }
        return yard.hasMove(move) && play.places.allows(yard, move) && play.add(move) ? play.done : NO;
    }

    public int back() {
        if (!play.on) {
            return STATE;
        }
        return play.takeBack() ? play.done : NO;
    }

    public int rest() {
        if (!play.on) {
            return STATE;
        }
        aimAtPlay();
        int found = search.restFrom(play.places);
        return found < 0 ? NONE : found;
    }

    public int next() {
        if (!play.on) {
            return STATE;
        }
        aimAtPlay();
        return search.nextFrom(play.places);
    }

    public int moves(int i) {
        if (!play.on) {
            return STATE;
        }
        int found = 0;
        for (int k = 0; k < yard.moveCount; k++) {
            int move = yard.moveAt(k);
            if (play.places.allows(yard, move)) {
                if (found == i) {
                    return move;
                }
                found++;
            }
        }
        return i == -1 ? found : NONE;
    }

    public int stand(int place) {
        if (isMissing(place)) {
            return UNKNOWN;
        }
        if (place < ENTRY || place > EXIT) {
            return OUTSIDE;
        }
        if (!play.on) {
            return STATE;
        }
        return Rows.toNumber(Rows.named(play.places.rowAt(place), play.train));
    }

    public int thumb(int train, int rule) {
        int n = Rows.wagons(train);
        if (n == 0 || rule < 0 || rule > 2) {
            return OUTSIDE;
        }
        return thumbs.outInOrder(yard, Rows.ofNumber(train), n, rule);
    }

    public int sorts(int n, int rule) {
        if (n < 1 || n > WAGONS || rule < 0 || rule > 2) {
            return OUTSIDE;
        }
        int all = Rows.factorial(n);
        int found = 0;
        for (int rank = 0; rank < all; rank++) {
            if (thumbs.outInOrder(yard, Rows.ofRank(rank, n), n, rule) == n) {
                found++;
            }
        }
        return found;
    }

    public int draw(int seed, int n) {
        if (seed < 0 || seed > 9999 || n < 1 || n > WAGONS) {
            return OUTSIDE;
        }
        int state = seed;
        int left = Rows.setUpTo(n);
        int train = 0;
        for (int size = n; size > 0; size--) {
            state = (state * 75 + 74) % 65537;
            int wagon = Rows.pick(left, state % size);
            left &= ~(1 << wagon);
            train = train * 10 + wagon;
        }
        return train;
    }

    public int image(int n) {
        if (n < 0 || n > 1) {
            return OUTSIDE;
        }
        Image image = imageAt(n);
        image.kept = true;
        image.yard.copyFrom(yard);
        image.other.copyFrom(other);
        image.play.copyFrom(play);
        return 1;
    }

    public int restore(int n) {
        if (n < 0 || n > 1) {
            return OUTSIDE;
        }
        Image image = imageAt(n);
        if (!image.kept) {
            return STATE;
        }
        yard.copyFrom(image.yard);
        other.copyFrom(image.other);
        play.copyFrom(image.play);
        forgetFindings();
        return 1;
    }

    public int told(int what) {
        switch (what) {
            case 0:
                return pad.count;
            case 1:
                return yard.sidings;
            case 2:
                return yard.stages;
            case 3:
                return play.on ? play.done : NONE;
            case 4:
                return other.sidings;
            default:
                return OUTSIDE;
        }
    }

    // ---- what several calls need

    /** Search and needs remember what they found in the YARD that was there. */
    private void forgetFindings() {
        search.forget();
        needs.train = 0;
    }

    private boolean isMissing(int place) {
        return place > yard.sidings && place <= SIDINGS;
    }

    private static boolean arePair(int train, int order) {
        int n = Rows.wagons(train);
        return n > 0 && Rows.wagons(order) == n;
    }

    /** LEAST of rows of n wagons; 0: the order does not come out. */
    private int leastOf(Yard where, int train, int order, int n) {
        survey.fill(where, n);
        return where.outcomes.leastOf(Rows.relative(train, order, n), n);
    }

    private int leastSorted(Yard where, int train, int n) {
        return leastOf(where, train, Rows.upTo(n), n);
    }

    private void aimAtPlay() {
        search.aim(yard, play.wagons, Rows.relative(play.train, play.order, play.wagons));
    }

    private Image imageAt(int n) {
        return n == 0 ? imageZero : imageOne;
    }

    private static long inLowestTerms(int upper, int lower, int part) {
        int a = upper;
        int b = lower;
        // Some fifty divisions are enough for any two ints.
        for (int i = 0; i < 64 && b > 0; i++) {
            int over = a % b;
            a = b;
            b = over;
        }
        if (a < 1 || lower < 1) {
            return part;
        }
        return part == 0 ? upper / a : lower / a;
    }

    private static void copyInts(int[] from, int[] to) {
        System.arraycopy(from, 0, to, 0, Math.min(from.length, to.length));
    }

    /**
     * ORDERS as numbers (12: wagon 1, then wagon 2), as rows (three bits a wagon, the first one lowest), and as
     * ranks among the ORDERS of n wagons, by their numbers.
     */
    private static final class Rows {
        private Rows() {
        }

        /** How many wagons a number tells; 0: it is no ORDER. */
        static int wagons(int number) {
            int rest = number;
            int seen = 0;
            int n = 0;
            while (rest > 0 && n < WAGONS) {
                seen |= 1 << (rest % 10);
                rest /= 10;
                n++;
            }
            return rest == 0 && n > 0 && seen == setUpTo(n) ? n : 0;
        }

        /** A set as bits: bit w for wagon w. */
        static int setUpTo(int n) {
            return (1 << (n + 1)) - 2;
        }

        /** The wagon of a set that has k lower ones in it; 0: there is none. */
        static int pick(int set, int k) {
            int lower = 0;
            for (int wagon = 1; wagon <= WAGONS; wagon++) {
                if ((set >> wagon & 1) == 1) {
                    if (lower == k) {
                        return wagon;
                    }
                    lower++;
                }
            }
            return 0;
        }

        static int ofNumber(int number) {
            int row = 0;
            int rest = number;
            for (int i = 0; i < WAGONS && rest > 0; i++) {
                row = row << 3 | rest % 10;
                rest /= 10;
            }
            return row;
        }

        static int toNumber(int row) {
            int number = 0;
            for (int i = 0; i < WAGONS && wagonAt(row, i) > 0; i++) {
                number = number * 10 + wagonAt(row, i);
            }
            return number;
        }

        static int wagonAt(int row, int i) {
            return i >= 0 && i < WAGONS ? row >> (3 * i) & 7 : 0;
        }

        /** The place of a wagon in a row, from 1 on; 0: it is not there. */
        static int placeOf(int row, int wagon) {
            for (int i = 0; i < WAGONS; i++) {
                if (wagonAt(row, i) == wagon) {
                    return i + 1;
                }
            }
            return 0;
        }

        static int upTo(int n) {
            int row = 0;
            for (int wagon = 1; wagon <= n && wagon <= WAGONS; wagon++) {
                row |= wagon << (3 * (wagon - 1));
            }
            return row;
        }

        /** An ORDER with each wagon told by its place in the TRAIN. */
        static int relative(int train, int order, int n) {
            int row = 0;
            for (int i = 0; i < n && i < WAGONS; i++) {
                row |= placeOf(train, wagonAt(order, i)) << (3 * i);
            }
            return row;
        }

        /** The other way round: a row of places in the TRAIN with the wagons' own numbers. */
        static int named(int places, int train) {
            int row = 0;
            for (int i = 0; i < WAGONS && wagonAt(places, i) > 0; i++) {
                row |= wagonAt(train, wagonAt(places, i) - 1) << (3 * i);
            }
            return row;
        }

        static int factorial(int n) {
            int product = 1;
            for (int k = 2; k <= n && k <= WAGONS; k++) {
                product *= k;
            }
            return product;
        }

        static int rankOf(int row, int n) {
            int rank = 0;
            int rest = row;
            int left = setUpTo(n);
            for (int i = 0; i < n && i < WAGONS; i++) {
                int wagon = rest & 7;
                rest >>= 3;
                left &= ~(1 << wagon);
                rank = rank * (n - i) + Integer.bitCount(left & ((1 << wagon) - 1));
            }
            return rank;
        }

        static int ofRank(int rank, int n) {
            int row = 0;
            int left = setUpTo(n);
            int rest = rank;
            for (int i = 0; i < n && i < WAGONS; i++) {
                int block = Math.max(1, factorial(n - 1 - i));
                int wagon = pick(left, rest / block);
                rest %= block;
                left &= ~(1 << wagon);
                row |= wagon << (3 * i);
            }
            return row;
        }
    }

    /** The signs of which a YARD is to be made. */
    private static final class Pad {
        private final int[] signs = new int[SIGNS];
        int count;

        boolean add(int sign) {
            if (count < 0 || count >= signs.length) {
                return false;
            }
            signs[count] = sign;
            count++;
            return true;
        }

        void clear() {
            count = 0;
        }

        private int signAt(int i) {
            return i >= 0 && i < count && i < signs.length ? signs[i] : 0;
        }

        private static boolean isLetter(int sign) {
            return sign == 's' || sign == 'q' || sign == 'd';
        }

        /** THE FAULT; NONE. */
        int faultAt() {
            int sidings = 0;
            int stages = 1;
            boolean dash = false;
            boolean empty = true;
            for (int i = 0; i < count; i++) {
                int sign = signAt(i);
                boolean fits;
                if (isLetter(signAt(i - 1))) {
                    fits = sign >= '1' && sign < '1' + LENGTHS;
                } else if (sign == ';') {
                    fits = !empty && stages < STAGES;
                    stages++;
                    dash = false;
                    empty = true;
                } else if (sign == '-') {
                    fits = !dash;
                    dash = true;
                    empty = false;
                } else {
                    fits = isLetter(sign) && sidings < SIDINGS;
                    sidings++;
                    empty = false;
                }
                if (!fits) {
                    return i;
                }
            }
            return empty || sidings == 0 || isLetter(signAt(count - 1)) ? count : NONE;
        }

        /** Only for signs without a FAULT. */
        void layOut(Yard yard) {
            yard.clear();
            for (int i = 0; i < count; i++) {
                int sign = signAt(i);
                if (sign == ';') {
                    yard.stages++;
                } else if (sign == '-') {
                    yard.addDash();
                } else if (isLetter(sign)) {
                    yard.addSiding(sign, signAt(i + 1) - '0');
                }
            }
            yard.listMoves();
        }
    }

    /** A YARD, the MOVES that it allows when wagons are left aside, and what is known of it. */
    private static final class Yard {
        int sidings;
        int stages;
        int moveCount;
        private int dashes;
        private final int[] letter = new int[SIDINGS];
        private final int[] length = new int[SIDINGS];
        private final int[] stage = new int[SIDINGS];
        private final int[] numbers = new int[MOVE_NUMBERS];
        final Outcomes outcomes = new Outcomes();

        void clear() {
            sidings = 0;
            stages = 1;
            moveCount = 0;
            dashes = 0;
            outcomes.forget();
        }

        void copyFrom(Yard from) {
            sidings = from.sidings;
            stages = from.stages;
            moveCount = from.moveCount;
            dashes = from.dashes;
            copyInts(from.letter, letter);
            copyInts(from.length, length);
            copyInts(from.stage, stage);
            copyInts(from.numbers, numbers);
            outcomes.copyFrom(from.outcomes);
        }

        void addDash() {
            dashes |= 1 << (stages - 1);
        }

        void addSiding(int sign, int size) {
            if (sidings >= 0 && sidings < SIDINGS) {
                letter[sidings] = sign;
                length[sidings] = size;
                stage[sidings] = stages - 1;
                sidings++;
            }
        }

        int letterAt(int i) {
            return i >= 0 && i < letter.length ? letter[i] : 0;
        }

        int lengthAt(int i) {
            return i >= 0 && i < length.length ? length[i] : 0;
        }

        void setLength(int i, int size) {
            if (i >= 0 && i < length.length) {
                length[i] = size;
            }
        }

        int stageAt(int i) {
            return i >= 0 && i < stage.length ? stage[i] : 0;
        }

        private int stageOf(int place) {
            if (place == ENTRY) {
                return -1;
            }
            return place == EXIT ? stages : stageAt(place - 1);
        }

        /** Whether the way is open between two places that there are. */
        boolean reaches(int from, int to) {
            int end = stageOf(to);
            int start = stageOf(from);
            boolean open = start < end;
            for (int between = start + 1; between < end; between++) {
                open = open && (dashes >> between & 1) == 1;
            }
            return open;
        }

        private boolean takesOutAt(int place, int end) {
            int kind = place == ENTRY ? 's' : letterAt(place - 1);
            return kind == 'd' || (kind == 'q' ? end == 1 : end == 0);
        }

        private boolean putsInAt(int place, int end) {
            return end == 0 || place != EXIT && letterAt(place - 1) == 'd';
        }

        /** In the order of their numbers, so that the first that fits is the one with the least number. */
        void listMoves() {
            moveCount = 0;
            for (int from = ENTRY; from <= sidings; from++) {
                for (int end = 0; end <= 1; end++) {
                    if (takesOutAt(from, end)) {
                        listMovesFrom(from, end);
                    }
                }
            }
        }

        private void listMovesFrom(int from, int fromEnd) {
            for (int to = 1; to <= EXIT; to++) {
                boolean there = to <= sidings || to == EXIT;
                for (int end = 0; end <= 1; end++) {
                    if (there && reaches(from, to) && putsInAt(to, end)) {
                        addMove(1000 * from + 100 * fromEnd + 10 * to + end);
                    }
                }
            }
        }

        private void addMove(int number) {
            if (moveCount >= 0 && moveCount < numbers.length) {
                numbers[moveCount] = number;
                moveCount++;
            }
        }

        int moveAt(int i) {
            return i >= 0 && i < moveCount && i < numbers.length ? numbers[i] : 0;
        }

        boolean hasMove(int number) {
            boolean found = false;
            for (int i = 0; i < moveCount; i++) {
                found = found || moveAt(i) == number;
            }
            return found;
        }
    }

    /** Of each ORDER (told by the places in the TRAIN) LEAST, 0 for none, and WAYS. */
    private static final class Outcomes {
        private int surveyed;
        private final int[] least = new int[ORDERS];
        private final long[] ways = new long[ORDERS];

        void forget() {
            surveyed = 0;
            for (int i = 0; i < ORDERS; i++) {
                least[i] = 0;
                ways[i] = 0;
            }
        }

        void copyFrom(Outcomes from) {
            surveyed = from.surveyed;
            copyInts(from.least, least);
            for (int i = 0; i < ORDERS; i++) {
                ways[i] = from.ways[i];
            }
        }

        boolean know(int n) {
            return (surveyed >> n & 1) == 1;
        }

        void nowKnow(int n) {
            surveyed |= 1 << n;
        }

        /** Out of range for what is no row of n wagons. */
        private static int cellOf(int row, int n) {
            int cell = Rows.rankOf(row, n);
            for (int fewer = 1; fewer < n && fewer < WAGONS; fewer++) {
                cell += Rows.factorial(fewer);
            }
            return cell;
        }

        void note(int row, int n, int moves, long rows) {
            int cell = cellOf(row, n);
            if (cell >= 0 && cell < ORDERS) {
                least[cell] = moves;
                ways[cell] = rows;
            }
        }

        int leastOf(int row, int n) {
            int cell = cellOf(row, n);
            return cell >= 0 && cell < ORDERS ? least[cell] : 0;
        }

        long waysOf(int row, int n) {
            int cell = cellOf(row, n);
            return cell >= 0 && cell < ORDERS ? ways[cell] : 0;
        }
    }

    /** Where the wagons stand: a row and a count for each place, the NEAR end (of the EXIT the first) lowest. */
    private static final class Places {
        private final int[] rows = new int[PLACES];
        private final int[] counts = new int[PLACES];

        void begin(int train, int n) {
            for (int place = 0; place < PLACES; place++) {
                rows[place] = 0;
                counts[place] = 0;
            }
            rows[ENTRY] = train;
            counts[ENTRY] = n;
        }

        void copyFrom(Places from) {
            copyInts(from.rows, rows);
            copyInts(from.counts, counts);
        }

        int rowAt(int place) {
            return place >= 0 && place < PLACES ? rows[place] : 0;
        }

        int countAt(int place) {
            return place >= 0 && place < PLACES ? counts[place] : 0;
        }

        private static boolean isFarPut(int move) {
            return move / 10 % 10 == EXIT || move % 10 == 1;
        }

        private static boolean isFarTake(int move) {
            return move / 100 % 10 == 1;
        }

        /** Whether a MOVE of the YARD's can be done: there is a wagon, and there is room. */
        boolean allows(Yard yard, int move) {
            int to = move / 10 % 10;
            return countAt(move / 1000) > 0 && (to == EXIT || countAt(to) < yard.lengthAt(to - 1));
        }

        /** The wagon that a MOVE moves; 0: there is none. */
        int wagonOf(int move) {
            int from = move / 1000;
            return Rows.wagonAt(rowAt(from), isFarTake(move) ? countAt(from) - 1 : 0);
        }

        void shift(int move) {
            put(move / 10 % 10, take(move / 1000, isFarTake(move)), isFarPut(move));
        }

        void unshift(int move) {
            put(move / 1000, take(move / 10 % 10, isFarPut(move)), isFarTake(move));
        }

        private int take(int place, boolean far) {
            if (place < 0 || place >= PLACES || counts[place] < 1) {
                return 0;
            }
            counts[place]--;
            int row = rows[place];
            if (!far) {
                rows[place] = row >> 3;
                return row & 7;
            }
            int above = 3 * counts[place];
            rows[place] = row & ((1 << above) - 1);
            return row >> above & 7;
        }

        private void put(int place, int wagon, boolean far) {
            if (place < 0 || place >= PLACES || wagon == 0) {
                return;
            }
            rows[place] = far ? rows[place] | wagon << (3 * counts[place]) : rows[place] << 3 | wagon;
            counts[place]++;
        }

        /** SIDINGS in a row, and the EXIT behind them: the lists that an index tells. */
        private static int placeOfList(int list, int sidings) {
            return list < sidings ? list + 1 : EXIT;
        }

        /**
         * A number for each way in which the wagons 1, 2, .. of a TRAIN can stand, without a gap. Wagons are thought
         * to be put into the lists one after another, wagon 1 first: each has a slot, its list's number and the
         * count of lower wagons before it. With wagon 1's slot first in the number, a MOVE always leads to a higher
         * number: it makes the slot of its wagon higher, and those of lower wagons stay.
         */
        int index(int sidings) {
            int seen = 0;
            int slots = 0;
            for (int list = 0; list <= sidings && list <= SIDINGS; list++) {
                int row = rowAt(placeOfList(list, sidings));
                for (int i = 0; i < WAGONS && row > 0; i++) {
                    int wagon = row & 7;
                    slots |= (list + Integer.bitCount(seen & ((1 << wagon) - 1))) << (4 * wagon);
                    seen |= 1 << wagon;
                    row >>= 3;
                }
            }
            int moved = Integer.bitCount(seen);
            int base = 0;
            int block = 1;
            int index = 0;
            for (int wagon = 1; wagon <= moved; wagon++) {
                base += block;
                block *= wagon + sidings;
                index = index * (wagon + sidings) + (slots >> (4 * wagon) & 15);
            }
            return base + index;
        }

        /** How many numbers index() has. */
        static int indices(int n, int sidings) {
            int block = 1;
            int sum = 1;
            for (int wagon = 1; wagon <= n && wagon <= WAGONS; wagon++) {
                block *= wagon + sidings;
                sum += block;
            }
            return sum;
        }

        /** The wagons 1 to n stand as an index tells. */
        void setUp(int index, int n, int sidings) {
            int moved = 0;
            int block = 1;
            int left = index;
            while (moved < n && left >= block) {
                left -= block;
                moved++;
                block *= moved + sidings;
            }
            int slots = 0;
            for (int wagon = moved; wagon > 0; wagon--) {
                int radix = Math.max(1, wagon + sidings);
                slots |= left % radix << (4 * wagon);
                left /= radix;
            }
            begin(Rows.upTo(n) >> (3 * moved), n - moved);
            for (int wagon = 1; wagon <= moved; wagon++) {
                insert(wagon, slots >> (4 * wagon) & 15, sidings);
            }
        }

        private void insert(int wagon, int slot, int sidings) {
            int left = slot;
            for (int list = 0; list <= sidings; list++) {
                int place = placeOfList(list, sidings);
                int count = countAt(place);
                if (left <= count) {
                    insertAt(place, wagon, left);
                    return;
                }
                left -= count + 1;
            }
        }

        private void insertAt(int place, int wagon, int before) {
            if (place >= 0 && place < PLACES) {
                int bits = 3 * before;
                int row = rows[place];
                rows[place] = row & ((1 << bits) - 1) | wagon << bits | row >> bits << (bits + 3);
                counts[place]++;
            }
        }
    }

    /** Goes once through all ways to stand and finds LEAST and WAYS of all ORDERS. */
    private static final class Survey {
        // One more than the fewest MOVES; 0: not reached.
        private final byte[] steps = new byte[POSITIONS];
        private final long[] rows = new long[POSITIONS];
        private final Places places = new Places();

        void fill(Yard yard, int n) {
            if (n < 1 || n > WAGONS || yard.outcomes.know(n)) {
                return;
            }
            int end = Math.min(POSITIONS, Places.indices(n, yard.sidings));
            for (int i = 0; i < end; i++) {
                steps[i] = 0;
                rows[i] = 0;
            }
            steps[0] = 1;
            rows[0] = 1;
            for (int i = 0; i < end; i++) {
                if (steps[i] > 0) {
                    places.setUp(i, n, yard.sidings);
                    if (places.countAt(EXIT) == n) {
                        yard.outcomes.note(places.rowAt(EXIT), n, steps[i] - 1, rows[i]);
                    } else {
                        spread(yard, steps[i] + 1, rows[i]);
                    }
                }
            }
            yard.outcomes.nowKnow(n);
        }

        private void spread(Yard yard, int step, long ways) {
            for (int k = 0; k < yard.moveCount; k++) {
                int move = yard.moveAt(k);
                if (places.allows(yard, move)) {
                    places.shift(move);
                    reach(places.index(yard.sidings), step, ways);
                    places.unshift(move);
                }
            }
        }

        private void reach(int index, int step, long ways) {
            if (index < 0 || index >= POSITIONS) {
                return;
            }
            if (steps[index] == 0 || step < steps[index]) {
                steps[index] = (byte) step;
                rows[index] = ways;
            } else if (step == steps[index]) {
                rows[index] += ways;
            }
        }
    }

    /** Finds how many MOVES are still to do from a way to stand, if one ORDER is wanted. */
    private static final class Search {
        // 32 times the stamp under which it was found, and one more than REST (0: STUCK).
        private final int[] known = new int[POSITIONS];
        private final Places places = new Places();
        private int stamp;
        private Yard yard;
        private int wagons;
        private int wanted;

        Search(Yard where) {
            yard = where;
        }

        /** What is known holds for one YARD and one ORDER; a new stamp makes all of it old. */
        void aim(Yard where, int n, int order) {
            if (n != wagons || order != wanted) {
                stamp++;
            }
            yard = where;
            wagons = n;
            wanted = order;
        }

        void forget() {
            wagons = 0;
            wanted = 0;
        }

        boolean comesOut() {
            places.begin(Rows.upTo(wagons), wagons);
            return remaining(this, 0) >= 0;
        }

        int restFrom(Places from) {
            places.copyFrom(from);
            return remaining(this, 0);
        }

        int nextFrom(Places from) {
            places.copyFrom(from);
            return bestMove();
        }

        /** The i-th MOVE of FIRST; NONE. */
        int firstRow(int i) {
            places.begin(Rows.upTo(wagons), wagons);
            int move = bestMove();
            for (int k = 0; k < i && k < MOST_MOVES && move != NONE; k++) {
                places.shift(move);
                move = bestMove();
            }
            return move;
        }

        /** A wagon that is not wanted next is kept from the EXIT. */
        private boolean fits(int move) {
            if (!places.allows(yard, move)) {
                return false;
            }
            return move / 10 % 10 != EXIT
                    || places.wagonOf(move) == Rows.wagonAt(wanted, places.countAt(EXIT));
        }

        private boolean isAstray() {
            int out = places.countAt(EXIT);
            return places.rowAt(EXIT) != (wanted & ((1 << (3 * out)) - 1));
        }

        private int bestMove() {
            int rest = remaining(this, 0);
            if (rest < 1) {
                return NONE;
            }
            for (int k = 0; k < yard.moveCount; k++) {
                int move = yard.moveAt(k);
                if (fits(move)) {
                    places.shift(move);
                    int then = remaining(this, 1);
                    places.unshift(move);
                    if (then == rest - 1) {
                        return move;
                    }
                }
            }
            return NONE;
        }

        /** REST from where the wagons stand; below 0: STUCK. */
        private static int remaining(Search s, int depth) {
            int index = s.places.index(s.yard.sidings);
            if (depth > MOST_MOVES || index < 0 || index >= POSITIONS || s.isAstray()) {
                return -1;
            }
            if (s.places.countAt(EXIT) == s.wagons) {
                return 0;
            }
            int found = s.known[index] - 32 * s.stamp;
            if (found >= 0) {
                return found - 1;
            }
            int best = -1;
            for (int k = 0; k < s.yard.moveCount; k++) {
                int move = s.yard.moveAt(k);
                if (s.fits(move)) {
                    s.places.shift(move);
                    int then = remaining(s, depth + 1);
                    s.places.unshift(move);
                    if (then >= 0 && (best < 0 || then + 1 < best)) {
                        best = then + 1;
                    }
                }
            }
            s.known[index] = 32 * s.stamp + best + 1;
            return best;
        }
    }

    /** NEED of the TRAIN that was asked for last. */
    private static final class Needs {
        int train;
        int sum;
        final Yard narrow = new Yard();

        /** The TRAIN can be SORTED in the YARD as it is. */
        void find(Yard yard, Search search, int n, int order) {
            narrow.copyFrom(yard);
            int most = 0;
            int codes = 1;
            for (int i = 0; i < yard.sidings; i++) {
                most += yard.lengthAt(i);
                codes *= LENGTHS;
            }
            boolean found = false;
            for (int total = yard.sidings; total <= most && !found; total++) {
                for (int code = 0; code < codes && !found; code++) {
                    if (setLengths(yard, code) == total) {
                        search.forget();
                        search.aim(narrow, n, order);
                        found = search.comesOut();
                        sum = total;
                    }
                }
            }
            search.forget();
        }

        /** Gives the sum; 0: a LENGTH would be more than it is. SIDING 0 is the code's highest digit. */
        private int setLengths(Yard yard, int code) {
            int rest = code;
            int total = 0;
            boolean fits = true;
            for (int i = yard.sidings - 1; i >= 0; i--) {
                int size = rest % LENGTHS + 1;
                rest /= LENGTHS;
                narrow.setLength(i, size);
                fits = fits && size <= yard.lengthAt(i);
                total += size;
            }
            return fits ? total : 0;
        }
    }

    /** THE PLAY: wagons are told by their places in the TRAIN. */
    private static final class Play {
        boolean on;
        int train;
        int order;
        int wagons;
        int done;
        private final int[] rows = new int[MOST_MOVES];
        final Places places = new Places();

        void begin(int from, int to, int n) {
            on = true;
            train = from;
            order = to;
            wagons = n;
            done = 0;
            places.begin(Rows.upTo(n), n);
        }

        void copyFrom(Play from) {
            on = from.on;
            train = from.train;
            order = from.order;
            wagons = from.wagons;
            done = from.done;
            copyInts(from.rows, rows);
            places.copyFrom(from.places);
        }

        boolean add(int move) {
            if (done < 0 || done >= MOST_MOVES) {
                return false;
            }
            rows[done] = move;
            done++;
            places.shift(move);
            return true;
        }

        boolean takeBack() {
            if (done < 1 || done > MOST_MOVES) {
                return false;
            }
            done--;
            places.unshift(rows[done]);
            return true;
        }
    }

    /** What image() keeps. */
    private static final class Image {
        boolean kept;
        final Yard yard = new Yard();
        final Yard other = new Yard();
        final Play play = new Play();
    }

    /** Rules of thumb; here wagons bear their own numbers. */
    private static final class Thumbs {
        private final Places places = new Places();

        int outInOrder(Yard yard, int train, int n, int rule) {
            places.begin(train, n);
            int move = choose(yard, rule);
            for (int k = 0; k < MOST_MOVES && move != NONE; k++) {
                places.shift(move);
                move = choose(yard, rule);
            }
            return places.countAt(EXIT);
        }

        private int choose(Yard yard, int rule) {
            int move = wantedOut(yard);
            if (move == NONE) {
                move = fromEntry(yard, rule);
            }
            return move == NONE ? onward(yard) : move;
        }

        private int wantedOut(Yard yard) {
            int wanted = places.countAt(EXIT) + 1;
            for (int k = 0; k < yard.moveCount; k++) {
                int move = yard.moveAt(k);
                if (move / 10 % 10 == EXIT && places.wagonOf(move) == wanted) {
                    return move;
                }
            }
            return NONE;
        }

        private int fromEntry(Yard yard, int rule) {
            int roomy = NONE;
            int higher = NONE;
            int emptiest = NONE;
            for (int k = 0; k < yard.moveCount; k++) {
                int move = yard.moveAt(k);
                int to = move / 10 % 10;
                boolean near = move / 1000 == ENTRY && to != EXIT && move % 10 == 0;
                if (near && places.allows(yard, move)) {
                    roomy = roomy == NONE ? move : roomy;
                    higher = higher == NONE && isBelowAll(places.wagonOf(move), to) ? move : higher;
                    boolean fewer = emptiest == NONE || places.countAt(to) < places.countAt(emptiest / 10 % 10);
                    emptiest = fewer ? move : emptiest;
                }
            }
            if (rule == 2) {
                return emptiest;
            }
            return rule == 1 && higher != NONE ? higher : roomy;
        }

        private boolean isBelowAll(int wagon, int place) {
            boolean below = true;
            for (int i = 0; i < places.countAt(place); i++) {
                below = below && wagon < Rows.wagonAt(places.rowAt(place), i);
            }
            return below;
        }

        private int onward(Yard yard) {
            for (int k = 0; k < yard.moveCount; k++) {
                int move = yard.moveAt(k);
                if (move / 1000 != ENTRY && move / 10 % 10 != EXIT && places.allows(yard, move)) {
                    return move;
                }
            }
            return NONE;
        }
    }
}
