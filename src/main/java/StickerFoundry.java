import java.util.Arrays;
import java.util.NoSuchElementException;

/** A foundry for twisty puzzles; README.md says how it is used. */
public final class StickerFoundry {
    public static final int NONE = -1;

    private static final int MOST_STICKERS = 12;
    private static final int MOST_TURNS = 5;
    private static final int MOST_SIGNS = 48;
    private static final int MOST_ARRANGEMENTS = 1500;
    private static final int MOST_LIMIT = 4;
    private static final int HALF_LIMIT = 2;

    private final Text text = new Text();
    private final Chain chain = new Chain();
    private final Ball ball = new Ball();
    private final long[] moveRows = new long[2 * MOST_TURNS];
    private final int[] found = new int[MOST_ARRANGEMENTS];
    private final int[] classes = new int[MOST_STICKERS];
    private int stickerCount;
    private int turnCount;
    private int foundLength;
    private long table;
    private boolean ballStands;

    public StickerFoundry() {
        beginPuzzle(1);
    }

    public boolean stickers(int n) {
        if (n < 1 || n > MOST_STICKERS) {
            return false;
        }
        beginPuzzle(n);
        return true;
    }

    public boolean type(long w, int n) {
        return text.append(w, n);
    }

    public boolean cut(int n) {
        return text.shorten(n);
    }

    public int turn() throws IllegalArgumentException, IndexOutOfBoundsException,
            IllegalStateException, UnsupportedOperationException {
        if (!text.readCycles()) {
            throw new IllegalArgumentException("the text is not in cycles");
        }
        if (!text.readBelow(stickerCount)) {
            throw new IndexOutOfBoundsException("a number is no place");
        }
        if (text.readTwice()) {
            throw new IllegalStateException("a place is there twice");
        }
        if (turnCount >= MOST_TURNS) {
            throw new UnsupportedOperationException("there are five turns");
        }
        return addTurn(text.readRow());
    }

    public int turns() {
        return turnCount;
    }

    public int image(int turn, int place) throws IndexOutOfBoundsException {
        requireTurn(turn);
        requireSticker(place);
        return Rows.at(moveRows[2 * turn], place);
    }

    public void move(int move) throws IndexOutOfBoundsException {
        if (move < 0 || move >= 2 * turnCount) {
            throw new IndexOutOfBoundsException("there is no such move");
        }
        table = Rows.then(table, moveRows[move]);
    }

    public void swap(int a, int b) throws IndexOutOfBoundsException {
        requireSticker(a);
        requireSticker(b);
        table = Rows.then(table, Rows.exchange(a, b));
    }

    public void reset() {
        table = Rows.SOLVED;
    }

    public int place(int sticker) throws IndexOutOfBoundsException {
        requireSticker(sticker);
        return Rows.at(table, sticker);
    }

    public long order() {
        return chain.countFrom(0);
    }

    public int orbit(int k) throws IndexOutOfBoundsException {
        requireSticker(k);
        return chain.orbitSize(k);
    }

    public boolean inOrbit(int k, int p) throws IndexOutOfBoundsException {
        requireSticker(k);
        requireSticker(p);
        return chain.takes(k, p);
    }

    public boolean reachable() {
        return chain.holds(table);
    }

    public long rank() throws IllegalStateException {
        if (!chain.holds(table)) {
            throw new IllegalStateException("the arrangement is not reachable");
        }
        return chain.rankOf(table);
    }

    public void unrank(long rank) throws NoSuchElementException {
        if (rank < 0 || rank >= chain.countFrom(0)) {
            throw new NoSuchElementException("there is no such rank");
        }
        table = chain.rowOf(rank);
    }

    public int block(int j, int s) throws IndexOutOfBoundsException {
        requireSticker(j);
        requireSticker(s);
        int places = placesFrom(j);
        if ((places >>> s & 1) == 0) {
            return NONE;
        }
        partClasses(j, Integer.numberOfTrailingZeros(places));
        return classes[s];
    }

    public int diameter() throws UnsupportedOperationException {
        requireFewArrangements();
        return ball.greatest();
    }

    public int atDistance(int d) throws UnsupportedOperationException {
        requireFewArrangements();
        return ball.countAt(d);
    }

    public int solve() throws UnsupportedOperationException, IllegalStateException {
        requireFewArrangements();
        int far = ball.farOf(table);
        if (far == NONE) {
            throw new IllegalStateException("the arrangement is not reachable");
        }
        findSolution(far);
        return far;
    }

    public int solution(int i) {
        return i >= 0 && i < foundLength ? found[i] : NONE;
    }

    public int within(int limit) throws IllegalArgumentException {
        if (limit < 0 || limit > MOST_LIMIT) {
            throw new IllegalArgumentException("the limit is not 0 .. 4");
        }
        fillBall();
        int least = leastFrom(ball, moveRows, 2 * turnCount, table, MOST_LIMIT - HALF_LIMIT);
        return least <= limit ? least : NONE;
    }

    public int write(int t) throws IndexOutOfBoundsException {
        if (t != NONE) {
            requireTurn(t);
        }
        return text.writeCycles(t == NONE ? table : moveRows[2 * t]);
    }

    public int character(int i) {
        return text.signAt(i);
    }

    private void beginPuzzle(int n) {
        stickerCount = n;
        turnCount = 0;
        table = Rows.SOLVED;
        chain.clear();
        ballStands = false;
    }

    private int addTurn(long row) {
        moveRows[2 * turnCount] = row;
        moveRows[2 * turnCount + 1] = Rows.back(row);
        chain.admit(row);
        ballStands = false;
        turnCount++;
        return turnCount - 1;
    }

    private void requireTurn(int turn) {
        if (turn < 0 || turn >= turnCount) {
            throw new IndexOutOfBoundsException("there is no such turn");
        }
    }

    /** For places too: there are as many as stickers. */
    private void requireSticker(int sticker) {
        if (sticker < 0 || sticker >= stickerCount) {
            throw new IndexOutOfBoundsException("there is no such sticker or place");
        }
    }

    private void requireFewArrangements() {
        if (chain.countFrom(0) > MOST_ARRANGEMENTS) {
            throw new UnsupportedOperationException("more than 1500 arrangements are reachable");
        }
        fillBall();
    }

    /** Where there are too many arrangements, the ball is what within needs: half of its way. */
    private void fillBall() {
        if (ballStands) {
            return;
        }
        boolean few = chain.countFrom(0) <= MOST_ARRANGEMENTS;
        ball.fill(moveRows, 2 * turnCount, few ? MOST_ARRANGEMENTS : HALF_LIMIT);
        ballStands = true;
    }

    /** The least move that comes nearer, time and again, is the first of all shortest rows. */
    private void findSolution(int far) {
        long row = table;
        for (int i = 0; i < far && i < MOST_ARRANGEMENTS; i++) {
            int nearer = nearerMove(row, far - i - 1);
            found[i] = nearer;
            row = Rows.then(row, moveRows[nearer]);
        }
        foundLength = far;
    }

    private int nearerMove(long row, int far) {
        for (int m = 0; m < 2 * turnCount; m++) {
            if (ball.farOf(Rows.then(row, moveRows[m])) == far) {
                return m;
            }
        }
        return 0;
    }

    /** The distance of a row, if so many moves more lead into the ball; NONE if not. */
    private static int leastFrom(Ball ball, long[] moveRows, int moveCount, long row, int more) {
        int least = ball.farOf(row);
        if (least != NONE || more <= 0) {
            return least;
        }
        for (int m = 0; m < moveCount; m++) {
            int next = leastFrom(ball, moveRows, moveCount, Rows.then(row, moveRows[m]), more - 1);
            if (next != NONE && (least == NONE || next + 1 < least)) {
                least = next + 1;
            }
        }
        return least;
    }

    /** The orbit of a sticker, fixing none: bit p is set when place p is in it. */
    private int placesFrom(int sticker) {
        int places = 1 << sticker;
        for (int round = 0; round < stickerCount; round++) {
            int before = places;
            for (int t = 0; t < turnCount; t++) {
                places |= imagesOf(places, moveRows[2 * t]);
            }
            if (places == before) {
                return places;
            }
        }
        return places;
    }

    private int imagesOf(int places, long row) {
        int images = 0;
        for (int p = 0; p < stickerCount; p++) {
            if ((places >>> p & 1) != 0) {
                images |= 1 << Rows.at(row, p);
            }
        }
        return images;
    }

    /** Each round but the last makes two classes one, so there are fewer rounds than stickers. */
    private void partClasses(int a, int b) {
        for (int p = 0; p < MOST_STICKERS; p++) {
            classes[p] = p;
        }
        boolean changed = uniteClasses(a, b);
        for (int round = 0; round < MOST_STICKERS && changed; round++) {
            changed = false;
            for (int t = 0; t < turnCount; t++) {
                changed |= carryClasses(moveRows[2 * t]);
            }
        }
    }

    private boolean carryClasses(long row) {
        boolean changed = false;
        for (int p = 0; p < stickerCount; p++) {
            changed |= uniteClasses(Rows.at(row, p), Rows.at(row, classes[p]));
        }
        return changed;
    }

    private boolean uniteClasses(int a, int b) {
        int kept = Math.min(classes[a], classes[b]);
        int lost = Math.max(classes[a], classes[b]);
        for (int p = 0; p < MOST_STICKERS; p++) {
            if (classes[p] == lost) {
                classes[p] = kept;
            }
        }
        return kept != lost;
    }

    /**
     * Turns and arrangements as numbers: four bits say where each of twelve places or stickers
     * goes (those that the puzzle has not, stay). A number can be kept and made without objects.
     */
    private static final class Rows {
        static final long SOLVED = 0xBA9876543210L;

        private Rows() {
        }

        static int at(long row, int i) {
            return (int) (row >>> (4 * i)) & 15;
        }

        /** Written out, without at: nothing else is done so often. */
        static long then(long first, long second) {
            long both = 0;
            for (int shift = 0; shift < 4 * MOST_STICKERS; shift += 4) {
                int middle = (int) (first >>> shift) & 15;
                both |= (second >>> (4 * middle) & 15) << shift;
            }
            return both;
        }

        static long back(long row) {
            long back = 0;
            for (int i = 0; i < MOST_STICKERS; i++) {
                int place = (int) (row >>> (4 * i)) & 15;
                back |= (long) i << (4 * place);
            }
            return back;
        }

        static long put(long row, int i, int value) {
            long others = row & ~(15L << (4 * i));
            return others | (long) value << (4 * i);
        }

        static long exchange(int a, int b) {
            return put(put(SOLVED, a, b), b, a);
        }
    }

    /** The text, and the numbers that were read in it last. */
    private static final class Text {
        private static final int WRONG = 0;
        private static final int OUTSIDE = 1;
        private static final int OPENED = 2;
        private static final int IN_NUMBER = 3;
        private static final int BEHIND_NUMBER = 4;

        private final char[] signs = new char[MOST_SIGNS];
        private final int[] numbers = new int[MOST_SIGNS];
        private final int[] heads = new int[MOST_SIGNS];
        private int length;
        private int count;
        private int head;

        boolean append(long w, int n) {
            if (n < 1 || n > 8 || length + n > MOST_SIGNS) {
                return false;
            }
            for (int i = 0; i < n; i++) {
                int sign = byteOf(w, i);
                if (sign < 32 || sign > 126) {
                    return false;
                }
            }
            for (int i = 0; i < n; i++) {
                addSign((char) byteOf(w, i));
            }
            return true;
        }

        boolean shorten(int n) {
            if (n < 0 || n > length) {
                return false;
            }
            length = n;
            return true;
        }

        int signAt(int i) {
            return i >= 0 && i < length ? signs[i] : 0;
        }

        /** False when the text is not in cycles. */
        boolean readCycles() {
            count = 0;
            int state = OUTSIDE;
            for (int i = 0; i < length && state != WRONG; i++) {
                state = stateBehind(state, signs[i]);
            }
            return state == OUTSIDE;
        }

        boolean readBelow(int places) {
            for (int i = 0; i < count; i++) {
                if (numbers[i] >= places) {
                    return false;
                }
            }
            return true;
        }

        boolean readTwice() {
            for (int i = 0; i < count; i++) {
                for (int k = 0; k < i; k++) {
                    if (numbers[i] == numbers[k]) {
                        return true;
                    }
                }
            }
            return false;
        }

        long readRow() {
            long row = Rows.SOLVED;
            for (int i = 0; i < count; i++) {
                boolean last = i + 1 == count || heads[i + 1] != heads[i];
                row = Rows.put(row, numbers[i], numbers[last ? heads[i] : i + 1]);
            }
            return row;
        }

        int writeCycles(long row) {
            length = 0;
            int written = 0;
            for (int p = 0; p < MOST_STICKERS; p++) {
                if ((written >>> p & 1) == 0 && Rows.at(row, p) != p) {
                    written |= writeCycle(row, p);
                }
            }
            return length;
        }

        /** Answers which places the cycle has, as bits. */
        private int writeCycle(long row, int least) {
            addSign('(');
            addNumber(least);
            int written = 1 << least;
            int place = Rows.at(row, least);
            for (int i = 1; i < MOST_STICKERS && place != least; i++) {
                addSign(' ');
                addNumber(place);
                written |= 1 << place;
                place = Rows.at(row, place);
            }
            addSign(')');
            return written;
        }

        private void addNumber(int number) {
            if (number > 9) {
                addSign((char) ('0' + number / 10));
            }
            addSign((char) ('0' + number % 10));
        }

        private void addSign(char sign) {
            if (length < MOST_SIGNS) {
                signs[length] = sign;
                length++;
            }
        }

        private int stateBehind(int state, char sign) {
            if (sign >= '0' && sign <= '9') {
                return stateBehindDigit(state, sign - '0');
            }
            if (sign == ' ') {
                return state == IN_NUMBER ? BEHIND_NUMBER : state;
            }
            if (sign == '(' && state == OUTSIDE) {
                head = count;
                return OPENED;
            }
            boolean closes = sign == ')' && (state == IN_NUMBER || state == BEHIND_NUMBER);
            return closes ? OUTSIDE : WRONG;
        }

        private int stateBehindDigit(int state, int digit) {
            if (state == OPENED || state == BEHIND_NUMBER) {
                numbers[count] = digit;
                heads[count] = head;
                count++;
                return IN_NUMBER;
            }
            int before = state == IN_NUMBER ? numbers[count - 1] : 0;
            // 0 begins no number of two digits, and there are none of three
            if (before < 1 || before > 9) {
                return WRONG;
            }
            numbers[count - 1] = 10 * before + digit;
            return IN_NUMBER;
        }

        private static int byteOf(long w, int i) {
            return (int) (w >>> (8 * i)) & 255;
        }
    }

    /**
     * All reachable arrangements, by Knuth's form of the method of Schreier and Sims: level k
     * knows those that fix 0 .. k - 1, by makers (which with backward ones make them all) and,
     * for each place of the orbit of k, one of them that takes k there.
     */
    private static final class Chain {
        /** Each maker enlarges its level's group, which 12 stickers allow 15 times at most. */
        private static final int MOST_MAKERS = 16;
        /** No row is 0: it would take all stickers to one place. */
        private static final long NO_ROW = 0;

        private final long[][] makers = new long[MOST_STICKERS][MOST_MAKERS];
        private final long[][] takers = new long[MOST_STICKERS][MOST_STICKERS];
        private final long[][] returners = new long[MOST_STICKERS][MOST_STICKERS];
        private final int[][] orbits = new int[MOST_STICKERS][MOST_STICKERS];
        private final int[] makerCounts = new int[MOST_STICKERS];
        private final int[] orbitSizes = new int[MOST_STICKERS];

        void clear() {
            for (int k = 0; k < MOST_STICKERS; k++) {
                Arrays.fill(takers[k], NO_ROW);
                makerCounts[k] = 0;
                orbitSizes[k] = 0;
                keepTaker(k, Rows.SOLVED);
            }
        }

        void admit(long row) {
            if (!holds(row)) {
                enlarge(0, row);
            }
        }

        boolean holds(long row) {
            return holdsFrom(0, row);
        }

        boolean takes(int k, int p) {
            return takers[k][p] != NO_ROW;
        }

        int orbitSize(int k) {
            return orbitSizes[k];
        }

        /** How many reachable arrangements fix 0 .. level - 1. */
        long countFrom(int level) {
            long product = 1;
            for (int k = level; k < MOST_STICKERS; k++) {
                product *= orbitSizes[k];
            }
            return product;
        }

        /** The rank of a row that the chain holds. */
        long rankOf(long row) {
            long rank = 0;
            long lead = Rows.SOLVED;
            long rest = row;
            for (int k = 0; k < MOST_STICKERS; k++) {
                rank = rank * orbitSizes[k] + countLesser(k, lead, Rows.at(row, k));
                int p = Rows.at(rest, k);
                lead = Rows.then(takers[k][p], lead);
                rest = Rows.then(rest, returners[k][p]);
            }
            return rank;
        }

        /** The row of a rank that there is. */
        long rowOf(long rank) {
            long left = rank;
            long lead = Rows.SOLVED;
            for (int k = 0; k < MOST_STICKERS; k++) {
                long each = countFrom(k + 1);
                long origins = Rows.back(lead);
                int chosen = k;
                for (int place = 0; place < MOST_STICKERS; place++) {
                    chosen = Rows.at(origins, place);
                    if (takes(k, chosen)) {
                        if (left < each) {
                            break;
                        }
                        left -= each;
                    }
                }
                lead = Rows.then(takers[k][chosen], lead);
            }
            return lead;
        }

        /** In how many ways sticker k can be at a lesser place, when lead took those before it. */
        private int countLesser(int k, long lead, int place) {
            int lesser = 0;
            for (int i = 0; i < orbitSizes[k]; i++) {
                if (Rows.at(lead, orbits[k][i]) < place) {
                    lesser++;
                }
            }
            return lesser;
        }

        private boolean holdsFrom(int level, long row) {
            long rest = row;
            for (int k = level; k < MOST_STICKERS; k++) {
                int p = Rows.at(rest, k);
                if (!takes(k, p)) {
                    return false;
                }
                if (p != k) {
                    rest = Rows.then(rest, returners[k][p]);
                }
            }
            return true;
        }

        /** What old places and old makers make together has been met before. */
        private void enlarge(int level, long maker) {
            if (level >= MOST_STICKERS || makerCounts[level] >= MOST_MAKERS) {
                return;
            }
            int newest = makerCounts[level];
            int oldPlaces = orbitSizes[level];
            makers[level][newest] = maker;
            makerCounts[level]++;
            for (int i = 0; i < orbitSizes[level] && i < MOST_STICKERS; i++) {
                long taker = takers[level][orbits[level][i]];
                for (int m = i < oldPlaces ? newest : 0; m <= newest; m++) {
                    meet(level, Rows.then(taker, makers[level][m]));
                }
            }
        }

        private void meet(int level, long row) {
            int p = Rows.at(row, level);
            if (!takes(level, p)) {
                keepTaker(level, row);
                return;
            }
            long rest = Rows.then(row, returners[level][p]);
            if (!holdsFrom(level + 1, rest)) {
                enlarge(level + 1, rest);
            }
        }

        private void keepTaker(int level, long row) {
            int p = Rows.at(row, level);
            takers[level][p] = row;
            returners[level][p] = Rows.back(row);
            orbits[level][orbitSizes[level]] = p;
            orbitSizes[level]++;
        }
    }

    /** The arrangements within some moves of the solved one, with their distances. */
    private static final class Ball {
        private static final int SLOT_BITS = 12;
        private static final int SLOTS = 1 << SLOT_BITS;
        /** An odd number without a pattern (the golden ratio's part), to spread rows over slots. */
        private static final long SPREAD = 0x9E3779B97F4A7C15L;

        private final long[] members = new long[MOST_ARRANGEMENTS];
        private final int[] distances = new int[MOST_ARRANGEMENTS];
        /** One more than the number of the member; 0 in a free slot. */
        private final int[] slots = new int[SLOTS];
        private int size;

        void fill(long[] moveRows, int moveCount, int radius) {
            Arrays.fill(slots, 0);
            size = 0;
            admit(Rows.SOLVED, 0);
            for (int i = 0; i < size && i < MOST_ARRANGEMENTS && distances[i] < radius; i++) {
                for (int m = 0; m < moveCount; m++) {
                    admit(Rows.then(members[i], moveRows[m]), distances[i] + 1);
                }
            }
        }

        /** NONE when the row is not in the ball. */
        int farOf(long row) {
            int slot = slotOf(row);
            return slots[slot] == 0 ? NONE : distances[slots[slot] - 1];
        }

        int greatest() {
            return size > 0 ? distances[size - 1] : 0;
        }

        int countAt(int distance) {
            int count = 0;
            for (int i = 0; i < size; i++) {
                if (distances[i] == distance) {
                    count++;
                }
            }
            return count;
        }

        private void admit(long row, int distance) {
            int slot = slotOf(row);
            if (slots[slot] == 0 && size < MOST_ARRANGEMENTS) {
                members[size] = row;
                distances[size] = distance;
                size++;
                slots[slot] = size;
            }
        }

        /** The slot that has the row or, if none has, the free one where it belongs. */
        private int slotOf(long row) {
            int slot = (int) ((row * SPREAD) >>> (64 - SLOT_BITS));
            for (int i = 0; i < SLOTS; i++) {
                if (slots[slot] == 0 || members[slots[slot] - 1] == row) {
                    return slot;
                }
                slot = (slot + 1) & (SLOTS - 1);
            }
            return slot;
        }
    }
}
