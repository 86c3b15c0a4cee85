import java.util.Arrays;
import java.util.NoSuchElementException;

/**
 * A keeper of formations: members on a plane hear those within range, agree on numbers, spread
 * sums by halves, have leaders in each group and keep wanted distances by small steps.
 */
public final class Formationist {
    public static final int NONE = -1;

    private static final int CAPACITY = 8;
    private static final int FARTHEST_PLACE = 1000;
    private static final int GREATEST_PRIORITY = 99;
    private static final int FIRST_RANGE = 100;
    private static final int GREATEST_RANGE = 3000;
    private static final int GREATEST_VALUE = 1000000;
    private static final int GREATEST_SQUARE = 8000000;
    private static final int MOST_ROUNDS = 50;
    private static final int FIRST_WEIGHT = 1024;
    private static final int PULL_FOR_ONE_STEP = 1000000;
    private static final int LONGEST_STEP = 50;

    private final int[] xs = new int[CAPACITY];
    private final int[] ys = new int[CAPACITY];
    private final boolean[] ups = new boolean[CAPACITY];
    private final int[] priorities = new int[CAPACITY];
    private final int[] estimates = new int[CAPACITY];
    private final int[] sums = new int[CAPACITY];
    private final int[] weights = new int[CAPACITY];
    private final int[] lastReceivers = new int[CAPACITY];
    private final int[][] wantedSquares = new int[CAPACITY][CAPACITY];
    private final Net blocked = new Net();
    private int count = 0;
    private int range = FIRST_RANGE;

    // Made once and used again by every call, as calls are many and rows are counted.
    private final Net net = new Net();
    private final int[] changes = new int[CAPACITY];
    private final int[] moreChanges = new int[CAPACITY];
    private final PebbleGame pebbleGame = new PebbleGame();
    private final LinkCounts linkCounts = new LinkCounts();
    private final TreeMatrix treeMatrix = new TreeMatrix();

    public Formationist() {
        for (int member = 0; member < CAPACITY; member++) {
            Arrays.fill(wantedSquares[member], NONE);
        }
    }

    // ---- members

    public int addMember(int x, int y) throws IllegalArgumentException, IllegalStateException {
        requirePlace(x, y);
        if (count >= CAPACITY) {
            throw new IllegalStateException("there are 8 members");
        }
        int member = count;
        xs[member] = x;
        ys[member] = y;
        ups[member] = true;
        weights[member] = FIRST_WEIGHT;
        lastReceivers[member] = NONE;
        count++;
        return member;
    }

    public void move(int member, int x, int y)
            throws IndexOutOfBoundsException, IllegalArgumentException {
        requireMember(member);
        requirePlace(x, y);
        xs[member] = x;
        ys[member] = y;
    }

    public boolean toggle(int member) throws IndexOutOfBoundsException {
        requireMember(member);
        ups[member] = !ups[member];
        return ups[member];
    }

    public int setPriority(int member, int priority)
            throws IndexOutOfBoundsException, IllegalArgumentException {
        requireMember(member);
        requireWithin(priority, 0, GREATEST_PRIORITY);
        int before = priorities[member];
        priorities[member] = priority;
        return before;
    }

    public int setRange(int range) throws IllegalArgumentException {
        requireWithin(range, 0, GREATEST_RANGE);
        int before = this.range;
        this.range = range;
        return before;
    }

    public boolean block(int member, int other)
            throws IndexOutOfBoundsException, IllegalArgumentException {
        requireUnlike(member, other);
        if (blocked.joins(member, other)) {
            blocked.cut(member, other);
            return false;
        }
        blocked.join(member, other);
        return true;
    }

    public int members() {
        return count;
    }

    public int xOf(int member) throws IndexOutOfBoundsException {
        requireMember(member);
        return xs[member];
    }

    public int yOf(int member) throws IndexOutOfBoundsException {
        requireMember(member);
        return ys[member];
    }

    // ---- links and groups

    public boolean areLinked(int member, int other) throws IndexOutOfBoundsException {
        requireMember(member);
        requireMember(other);
        return hears(member, other);
    }

    public int links() {
        drawNet();
        return net.pairCount();
    }

    public int degree(int member) throws IndexOutOfBoundsException {
        requireMember(member);
        drawNet();
        return net.degreeOf(member);
    }

    public int groups() {
        drawNet();
        return countGroups();
    }

    public int leader(int member) throws IndexOutOfBoundsException {
        requireMember(member);
        if (!ups[member]) {
            return NONE;
        }
        drawNet();
        int group = net.groupOf(member);
        int best = member;
        for (int other = 0; other < count; other++) {
            if (Net.holds(group, other) && outranks(other, best)) {
                best = other;
            }
        }
        return best;
    }

    public long trees() {
        drawNet();
        return treeMatrix.treesOf(net, upSet());
    }

    // ---- agreement

    public int setEstimate(int member, int estimate)
            throws IndexOutOfBoundsException, IllegalArgumentException {
        requireMember(member);
        requireValue(estimate);
        int before = estimates[member];
        estimates[member] = estimate;
        return before;
    }

    public int estimate(int member) throws IndexOutOfBoundsException {
        requireMember(member);
        return estimates[member];
    }

    public int agree(int rounds) throws IllegalArgumentException {
        requireRounds(rounds);
        drawNet();
        for (int round = 0; round < rounds; round++) {
            exchangeEstimates();
        }
        return spanOfEstimates();
    }

    // ---- spreading

    public int setSum(int member, int sum)
            throws IndexOutOfBoundsException, IllegalArgumentException {
        requireMember(member);
        requireValue(sum);
        int before = sums[member];
        sums[member] = sum;
        return before;
    }

    public int sum(int member) throws IndexOutOfBoundsException {
        requireMember(member);
        return sums[member];
    }

    public int weight(int member) throws IndexOutOfBoundsException {
        requireMember(member);
        return weights[member];
    }

    public int spread(int rounds) throws IllegalArgumentException {
        requireRounds(rounds);
        drawNet();
        int handed = 0;
        for (int round = 0; round < rounds; round++) {
            handed += handHalves();
        }
        return handed;
    }

    // ---- figures

    public int want(int member, int other, int square)
            throws IndexOutOfBoundsException, IllegalArgumentException {
        requireUnlike(member, other);
        if (square != NONE) {
            requireWithin(square, 1, GREATEST_SQUARE);
        }
        int before = wantedSquares[member][other];
        wantedSquares[member][other] = square;
        wantedSquares[other][member] = square;
        return before;
    }

    public int error() {
        drawNet();
        int error = 0;
        for (int member = 0; member < count; member++) {
            for (int other = 0; other < member; other++) {
                error += Math.abs(excessOf(member, other));
            }
        }
        return error;
    }

    public int settle(int rounds) throws IllegalArgumentException {
        requireRounds(rounds);
        for (int round = 0; round < rounds; round++) {
            stepTogether();
        }
        return error();
    }

    // ---- rigidity

    public int rank() {
        drawNet();
        return pebbleGame.rankOf(net);
    }

    public int rankByCounting() {
        drawNet();
        return linkCounts.rankOf(net);
    }

    public boolean isRigid() {
        drawNet();
        int up = Integer.bitCount(upSet());
        return up >= 2 && countGroups() == 1 && pebbleGame.rankOf(net) == 2 * up - 3;
    }

    public boolean isSpare(int member, int other)
            throws IndexOutOfBoundsException, NoSuchElementException {
        requireMember(member);
        requireMember(other);
        if (!hears(member, other)) {
            throw new NoSuchElementException("the two members are not linked");
        }
        drawNet();
        int rankWithLink = pebbleGame.rankOf(net);
        net.cut(member, other);
        return pebbleGame.rankOf(net) == rankWithLink;
    }

    // ---- what calls may take

    private void requireMember(int member) throws IndexOutOfBoundsException {
        if (member < 0 || member >= count) {
            throw new IndexOutOfBoundsException("there is no such member");
        }
    }

    private void requireUnlike(int member, int other)
            throws IndexOutOfBoundsException, IllegalArgumentException {
        requireMember(member);
        requireMember(other);
        if (member == other) {
            throw new IllegalArgumentException("both members are the same");
        }
    }

    private static void requireWithin(int value, int least, int greatest)
            throws IllegalArgumentException {
        if (value < least || value > greatest) {
            throw new IllegalArgumentException("a number is out of range");
        }
    }

    private static void requirePlace(int x, int y) throws IllegalArgumentException {
        requireWithin(x, -FARTHEST_PLACE, FARTHEST_PLACE);
        requireWithin(y, -FARTHEST_PLACE, FARTHEST_PLACE);
    }

    private static void requireValue(int value) throws IllegalArgumentException {
        requireWithin(value, -GREATEST_VALUE, GREATEST_VALUE);
    }

    private static void requireRounds(int rounds) throws IllegalArgumentException {
        requireWithin(rounds, 1, MOST_ROUNDS);
    }

    // ---- who hears whom

    private int squareBetween(int member, int other) {
        int dx = xs[member] - xs[other];
        int dy = ys[member] - ys[other];
        return dx * dx + dy * dy;
    }

    private boolean hears(int member, int other) {
        return member != other
                && ups[member]
                && ups[other]
                && !blocked.joins(member, other)
                && squareBetween(member, other) <= range * range;
    }

    /** Links follow from places, range and blocks, so each call that needs them draws them anew. */
    private void drawNet() {
        net.clear();
        for (int member = 0; member < count; member++) {
            for (int other = 0; other < member; other++) {
                if (hears(member, other)) {
                    net.join(member, other);
                }
            }
        }
    }

    private int countGroups() {
        int found = 0;
        int grouped = 0;
        for (int member = 0; member < count; member++) {
            if (ups[member] && !Net.holds(grouped, member)) {
                grouped |= net.groupOf(member);
                found++;
            }
        }
        return found;
    }

    private int upSet() {
        int set = 0;
        for (int member = 0; member < count; member++) {
            if (ups[member]) {
                set = Net.with(set, member);
            }
        }
        return set;
    }

    private boolean outranks(int member, int other) {
        if (priorities[member] != priorities[other]) {
            return priorities[member] > priorities[other];
        }
        return member < other;
    }

    // ---- rounds

    private void exchangeEstimates() {
        Arrays.fill(changes, 0);
        for (int low = 0; low < count; low++) {
            for (int high = low + 1; high < count; high++) {
                if (net.joins(low, high)) {
                    int flow = flowBetween(low, high);
                    changes[low] -= flow;
                    changes[high] += flow;
                }
            }
        }
        addChanges(estimates, changes);
    }

    private int flowBetween(int low, int high) {
        // Both are linked, so the parts are two at the least.
        int parts = Math.max(net.degreeOf(low), net.degreeOf(high)) + 1;
        return (estimates[low] - estimates[high]) / parts;
    }

    private int spanOfEstimates() {
        if (count == 0) {
            return 0;
        }
        int least = estimates[0];
        int greatest = estimates[0];
        for (int member = 1; member < count; member++) {
            least = Math.min(least, estimates[member]);
            greatest = Math.max(greatest, estimates[member]);
        }
        return greatest - least;
    }

    /** Lets each linked member hand over once; returns how many did, be it only a nought. */
    private int handHalves() {
        Arrays.fill(changes, 0);
        Arrays.fill(moreChanges, 0);
        int handed = 0;
        for (int member = 0; member < count; member++) {
            int receiver = nextReceiver(member);
            if (receiver >= 0) {
                handOver(sums[member] / 2, member, receiver, changes);
                handOver(weights[member] / 2, member, receiver, moreChanges);
                lastReceivers[member] = receiver;
                handed++;
            }
        }
        addChanges(sums, changes);
        addChanges(weights, moreChanges);
        return handed;
    }

    private int nextReceiver(int member) {
        int lowest = NONE;
        for (int other = 0; other < count; other++) {
            if (net.joins(member, other)) {
                if (other > lastReceivers[member]) {
                    return other;
                }
                if (lowest == NONE) {
                    lowest = other;
                }
            }
        }
        return lowest;
    }

    private static void handOver(int part, int giver, int receiver, int[] row) {
        row[giver] -= part;
        row[receiver] += part;
    }

    /** Changes wait in rows till a round ends, as all are told by the state ahead of it. */
    private void addChanges(int[] row, int[] changesOfRow) {
        for (int member = 0; member < count; member++) {
            row[member] += changesOfRow[member];
        }
    }

    private void stepTogether() {
        drawNet();
        for (int member = 0; member < count; member++) {
            changes[member] = stepOf(member, xs);
            moreChanges[member] = stepOf(member, ys);
        }
        for (int member = 0; member < count; member++) {
            xs[member] = keptOnPlane(xs[member] - changes[member]);
            ys[member] = keptOnPlane(ys[member] - moreChanges[member]);
        }
    }

    private int stepOf(int member, int[] places) {
        long pull = 0;
        for (int other = 0; other < count; other++) {
            long apart = places[member] - places[other];
            pull += excessOf(member, other) * apart;
        }
        long step = pull / PULL_FOR_ONE_STEP;
        return (int) Math.max(-LONGEST_STEP, Math.min(LONGEST_STEP, step));
    }

    private static int keptOnPlane(int place) {
        return Math.max(-FARTHEST_PLACE, Math.min(FARTHEST_PLACE, place));
    }

    /** By how much the square of a distance is over the wanted one; 0 where none counts. */
    private int excessOf(int member, int other) {
        if (!net.joins(member, other) || wantedSquares[member][other] == NONE) {
            return 0;
        }
        return squareBetween(member, other) - wantedSquares[member][other];
    }

    /** Pairs of members, kept as a set of others for each one; a set of members is a mask. */
    private static final class Net {
        private final int[] others = new int[CAPACITY];

        private static boolean holds(int set, int member) {
            return (set & 1 << member) != 0;
        }

        private static int with(int set, int member) {
            return set | 1 << member;
        }

        private static int without(int set, int member) {
            return set & ~(1 << member);
        }

        private void clear() {
            Arrays.fill(others, 0);
        }

        private void join(int one, int other) {
            others[one] = with(others[one], other);
            others[other] = with(others[other], one);
        }

        private void cut(int one, int other) {
            others[one] = without(others[one], other);
            others[other] = without(others[other], one);
        }

        private boolean joins(int one, int other) {
            return holds(others[one], other);
        }

        private int degreeOf(int member) {
            return Integer.bitCount(others[member]);
        }

        private int pairCount() {
            int ends = 0;
            for (int member = 0; member < CAPACITY; member++) {
                ends += degreeOf(member);
            }
            return ends / 2;
        }

        /** The set of all that can be reached; no way is longer than there can be members. */
        private int groupOf(int start) {
            int group = with(0, start);
            for (int leg = 1; leg < CAPACITY; leg++) {
                int reached = group;
                for (int member = 0; member < CAPACITY; member++) {
                    if (holds(group, member)) {
                        reached |= others[member];
                    }
                }
                group = reached;
            }
            return group;
        }
    }

    /**
     * Tells the rank by pebbles. A link that is kept lies on a pebble of one of its ends and is an
     * arc from there; a pebble is brought nearer by turning the arcs on the way to it.
     */
    private static final class PebbleGame {
        private static final int PEBBLES_EACH = 2;
        private static final int PEBBLES_FOR_A_FREE_LINK = 4;

        private final int[] pebbles = new int[CAPACITY];
        private final int[] arcs = new int[CAPACITY];
        private final int[] cameFrom = new int[CAPACITY];

        private int rankOf(Net net) {
            Arrays.fill(pebbles, PEBBLES_EACH);
            Arrays.fill(arcs, 0);
            int kept = 0;
            for (int one = 0; one < CAPACITY; one++) {
                for (int other = 0; other < one; other++) {
                    if (net.joins(one, other) && gatherPebbles(one, other)) {
                        pebbles[one]--;
                        arcs[one] = Net.with(arcs[one], other);
                        kept++;
                    }
                }
            }
            return kept;
        }

        private boolean gatherPebbles(int one, int other) {
            for (int fetched = 0; fetched < PEBBLES_FOR_A_FREE_LINK; fetched++) {
                if (pebbles[one] + pebbles[other] >= PEBBLES_FOR_A_FREE_LINK) {
                    return true;
                }
                if (!fetchPebble(one, other) && !fetchPebble(other, one)) {
                    return false;
                }
            }
            return pebbles[one] + pebbles[other] >= PEBBLES_FOR_A_FREE_LINK;
        }

        /** Brings a pebble to one end of a link, leaving those of the other end where they are. */
        private boolean fetchPebble(int end, int otherEnd) {
            int holder = findPebble(end, otherEnd);
            if (holder < 0) {
                return false;
            }
            pebbles[holder]--;
            pebbles[end]++;
            turnArcs(holder);
            return true;
        }

        private int findPebble(int end, int otherEnd) {
            Arrays.fill(cameFrom, NONE);
            int seen = Net.with(Net.with(0, end), otherEnd);
            int edge = Net.with(0, end);
            for (int leg = 1; leg < CAPACITY; leg++) {
                int reached = 0;
                for (int member = 0; member < CAPACITY; member++) {
                    if (Net.holds(edge, member)) {
                        int fresh = arcs[member] & ~seen & ~reached;
                        noteWay(member, fresh);
                        reached |= fresh;
                    }
                }
                int holder = holderAmong(reached);
                if (holder >= 0) {
                    return holder;
                }
                seen |= reached;
                edge = reached;
            }
            return NONE;
        }

        private void noteWay(int from, int fresh) {
            for (int member = 0; member < CAPACITY; member++) {
                if (Net.holds(fresh, member)) {
                    cameFrom[member] = from;
                }
            }
        }

        private int holderAmong(int set) {
            for (int member = 0; member < CAPACITY; member++) {
                if (Net.holds(set, member) && pebbles[member] > 0) {
                    return member;
                }
            }
            return NONE;
        }

        private void turnArcs(int holder) {
            int to = holder;
            for (int leg = 1; leg < CAPACITY; leg++) {
                int from = cameFrom[to];
                if (from < 0) {
                    return;
                }
                arcs[from] = Net.without(arcs[from], to);
                arcs[to] = Net.with(arcs[to], from);
                to = from;
            }
        }
    }

    /** Tells the rank by counting, for each set of members, the kept links between two of them. */
    private static final class LinkCounts {
        private static final int SETS = 1 << CAPACITY;

        private final int[] linksWithin = new int[SETS];

        private int rankOf(Net net) {
            Arrays.fill(linksWithin, 0);
            int kept = 0;
            for (int one = 0; one < CAPACITY; one++) {
                for (int other = 0; other < one; other++) {
                    int ends = Net.with(Net.with(0, one), other);
                    if (net.joins(one, other) && leavesFree(ends)) {
                        keepLink(ends);
                        kept++;
                    }
                }
            }
            return kept;
        }

        private boolean leavesFree(int ends) {
            for (int set = ends; set < SETS; set++) {
                boolean within = (set & ends) == ends;
                if (within && linksWithin[set] >= 2 * Integer.bitCount(set) - 3) {
                    return false;
                }
            }
            return true;
        }

        private void keepLink(int ends) {
            for (int set = ends; set < SETS; set++) {
                if ((set & ends) == ends) {
                    linksWithin[set]++;
                }
            }
        }
    }

    /**
     * Tells the number of trees, by Kirchhoff's theorem: it is the determinant of the matrix of
     * degrees less links, without the row and the column of one member.
     */
    private static final class TreeMatrix {
        private final long[][] rows = new long[CAPACITY][CAPACITY];

        private long treesOf(Net net, int set) {
            if (set == 0) {
                return 0;
            }
            int leftOut = Integer.numberOfTrailingZeros(set);
            return determinant(fill(net, Net.without(set, leftOut)));
        }

        private int fill(Net net, int set) {
            int size = 0;
            for (int member = 0; member < CAPACITY; member++) {
                if (Net.holds(set, member)) {
                    fillRow(net, set, member, rows[size]);
                    size++;
                }
            }
            return size;
        }

        private static void fillRow(Net net, int set, int member, long[] row) {
            int column = 0;
            for (int other = 0; other < CAPACITY; other++) {
                if (Net.holds(set, other)) {
                    row[column] = net.joins(member, other) ? -1 : 0;
                    if (other == member) {
                        row[column] = net.degreeOf(member);
                    }
                    column++;
                }
            }
        }

        /**
         * Eliminates without fractions. A pivot is the determinant of the rows so far; the matrix
         * has no negative eigenvalue, so once one pivot is 0 the whole determinant is.
         */
        private long determinant(int size) {
            long divisor = 1;
            for (int step = 0; step < size; step++) {
                long pivot = rows[step][step];
                if (pivot == 0) {
                    return 0;
                }
                for (int row = step + 1; row < size; row++) {
                    for (int column = step + 1; column < size; column++) {
                        long cross = rows[row][step] * rows[step][column];
                        rows[row][column] = (rows[row][column] * pivot - cross) / divisor;
                    }
                }
                divisor = pivot;
            }
            return divisor;
        }
    }
}
