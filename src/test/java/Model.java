import java.util.ArrayList;
import java.util.List;
import java.util.NoSuchElementException;
import java.util.Random;
import java.util.TreeSet;

/**
 * The document told once more, in other ways than the class goes: objects for members, search by
 * sets, and rank and trees by matrices over a prime field. RandomRunsTest compares both.
 */
final class Model {
    private static final long PRIME = 2147483647L;

    private static final class Member {
        int x;
        int y;
        int priority = 0;
        int estimate = 0;
        int sum = 0;
        int weight = 1024;
        int last = -1;
        boolean up = true;
    }

    private final List<Member> all = new ArrayList<>();
    private final TreeSet<Integer> blocked = new TreeSet<>();
    private final java.util.Map<Integer, Integer> wanted = new java.util.TreeMap<>();
    private final long[] spotX = new long[8];
    private final long[] spotY = new long[8];
    private int range = 100;

    Model() {
        // Any spots do for the rank but for a very few; these are fixed by the seed.
        Random random = new Random(20261119);
        for (int i = 0; i < 8; i++) {
            spotX[i] = random.nextInt(1 << 30);
            spotY[i] = random.nextInt(1 << 30);
        }
    }

    private Member at(int member) {
        if (member < 0 || member >= all.size()) {
            throw new IndexOutOfBoundsException();
        }
        return all.get(member);
    }

    private static void ask(boolean right) {
        if (!right) {
            throw new IllegalArgumentException();
        }
    }

    private static boolean onPlane(int x, int y) {
        return Math.abs((long) x) <= 1000 && Math.abs((long) y) <= 1000;
    }

    private static int key(int one, int other) {
        return Math.min(one, other) * 10 + Math.max(one, other);
    }

    int addMember(int x, int y) {
        ask(onPlane(x, y));
        if (all.size() == 8) {
            throw new IllegalStateException();
        }
        Member made = new Member();
        made.x = x;
        made.y = y;
        all.add(made);
        return all.size() - 1;
    }

    int move(int member, int x, int y) {
        Member moved = at(member);
        ask(onPlane(x, y));
        moved.x = x;
        moved.y = y;
        return 0;
    }

    int toggle(int member) {
        at(member).up ^= true;
        return at(member).up ? 1 : 0;
    }

    int setPriority(int member, int priority) {
        Member changed = at(member);
        ask(priority >= 0 && priority <= 99);
        int before = changed.priority;
        changed.priority = priority;
        return before;
    }

    int setRange(int wide) {
        ask(wide >= 0 && wide <= 3000);
        int before = range;
        range = wide;
        return before;
    }

    int block(int member, int other) {
        at(member);
        at(other);
        ask(member != other);
        if (blocked.remove(key(member, other))) {
            return 0;
        }
        blocked.add(key(member, other));
        return 1;
    }

    int members() {
        return all.size();
    }

    int xOf(int member) {
        return at(member).x;
    }

    int yOf(int member) {
        return at(member).y;
    }

    private int square(int one, int other) {
        int dx = at(one).x - at(other).x;
        int dy = at(one).y - at(other).y;
        return dx * dx + dy * dy;
    }

    int areLinked(int member, int other) {
        boolean up = at(member).up & at(other).up;
        boolean free = member != other && !blocked.contains(key(member, other));
        return up && free && square(member, other) <= range * range ? 1 : 0;
    }

    private List<Integer> heardBy(int member) {
        List<Integer> heard = new ArrayList<>();
        for (int other = 0; other < all.size(); other++) {
            if (areLinked(member, other) == 1) {
                heard.add(other);
            }
        }
        return heard;
    }

    private List<int[]> allLinks() {
        List<int[]> pairs = new ArrayList<>();
        for (int low = 0; low < all.size(); low++) {
            for (int high : heardBy(low)) {
                if (high > low) {
                    pairs.add(new int[] {low, high});
                }
            }
        }
        return pairs;
    }

    int links() {
        return allLinks().size();
    }

    int degree(int member) {
        at(member);
        return heardBy(member).size();
    }

    private TreeSet<Integer> groupOf(int member) {
        TreeSet<Integer> group = new TreeSet<>();
        visit(member, group);
        return group;
    }

    private void visit(int member, TreeSet<Integer> group) {
        if (group.add(member)) {
            for (int other : heardBy(member)) {
                visit(other, group);
            }
        }
    }

    private List<Integer> thoseUp() {
        List<Integer> up = new ArrayList<>();
        for (int member = 0; member < all.size(); member++) {
            if (all.get(member).up) {
                up.add(member);
            }
        }
        return up;
    }

    int groups() {
        TreeSet<Integer> lowest = new TreeSet<>();
        for (int member : thoseUp()) {
            lowest.add(groupOf(member).first());
        }
        return lowest.size();
    }

    int leader(int member) {
        if (!at(member).up) {
            return -1;
        }
        int best = -1;
        for (int other : groupOf(member)) {
            if (best < 0 || at(other).priority > at(best).priority) {
                best = other;
            }
        }
        return best;
    }

    long trees() {
        List<Integer> up = thoseUp();
        if (up.isEmpty()) {
            return 0;
        }
        int size = up.size() - 1;
        long[][] matrix = new long[size][size];
        for (int row = 0; row < size; row++) {
            for (int column = 0; column < size; column++) {
                long entry = -areLinked(up.get(row), up.get(column));
                matrix[row][column] = row == column ? degree(up.get(row)) : entry;
            }
        }
        return eliminate(matrix, size)[1];
    }

    /** The rank of a matrix modulo PRIME and, if it is square, its determinant. */
    private static long[] eliminate(long[][] matrix, int columns) {
        int rank = 0;
        long product = 1;
        for (int column = 0; column < columns; column++) {
            int pivot = rank;
            while (pivot < matrix.length && Math.floorMod(matrix[pivot][column], PRIME) == 0) {
                pivot++;
            }
            if (pivot == matrix.length) {
                product = 0;
                continue;
            }
            long[] taken = matrix[pivot];
            matrix[pivot] = matrix[rank];
            matrix[rank] = taken;
            long sign = pivot == rank ? 1 : -1;
            long head = Math.floorMod(taken[column], PRIME);
            product = Math.floorMod(product * head % PRIME * sign, PRIME);
            for (int row = rank + 1; row < matrix.length; row++) {
                long factor = Math.floorMod(matrix[row][column], PRIME) * inverse(head) % PRIME;
                for (int at = column; at < columns; at++) {
                    long part = factor * Math.floorMod(taken[at], PRIME) % PRIME;
                    matrix[row][at] = Math.floorMod(matrix[row][at] - part, PRIME);
                }
            }
            rank++;
        }
        return new long[] {rank, product};
    }

    private static long inverse(long value) {
        long power = value;
        long inverse = 1;
        for (long exponent = PRIME - 2; exponent > 0; exponent /= 2) {
            if (exponent % 2 == 1) {
                inverse = inverse * power % PRIME;
            }
            power = power * power % PRIME;
        }
        return inverse;
    }

    int setEstimate(int member, int estimate) {
        Member changed = at(member);
        ask(Math.abs((long) estimate) <= 1000000);
        int before = changed.estimate;
        changed.estimate = estimate;
        return before;
    }

    int estimate(int member) {
        return at(member).estimate;
    }

    int agree(int rounds) {
        ask(rounds >= 1 && rounds <= 50);
        for (int round = 0; round < rounds; round++) {
            List<int[]> flows = new ArrayList<>();
            for (int[] link : allLinks()) {
                int parts = 1 + Math.max(degree(link[0]), degree(link[1]));
                int apart = at(link[0]).estimate - at(link[1]).estimate;
                flows.add(new int[] {link[0], link[1], apart / parts});
            }
            for (int[] flow : flows) {
                at(flow[0]).estimate -= flow[2];
                at(flow[1]).estimate += flow[2];
            }
        }
        TreeSet<Integer> estimates = new TreeSet<>();
        for (Member member : all) {
            estimates.add(member.estimate);
        }
        return estimates.isEmpty() ? 0 : estimates.last() - estimates.first();
    }

    int setSum(int member, int sum) {
        Member changed = at(member);
        ask(Math.abs((long) sum) <= 1000000);
        int before = changed.sum;
        changed.sum = sum;
        return before;
    }

    int sum(int member) {
        return at(member).sum;
    }

    int weight(int member) {
        return at(member).weight;
    }

    int spread(int rounds) {
        ask(rounds >= 1 && rounds <= 50);
        int handed = 0;
        for (int round = 0; round < rounds; round++) {
            List<int[]> parts = new ArrayList<>();
            for (int member = 0; member < all.size(); member++) {
                TreeSet<Integer> heard = new TreeSet<>(heardBy(member));
                if (!heard.isEmpty()) {
                    Member giver = at(member);
                    Integer next = heard.higher(giver.last);
                    giver.last = next == null ? heard.first() : next;
                    parts.add(new int[] {giver.last, giver.sum / 2, giver.weight >> 1});
                    giver.sum -= giver.sum / 2;
                    giver.weight -= giver.weight >> 1;
                }
            }
            for (int[] part : parts) {
                at(part[0]).sum += part[1];
                at(part[0]).weight += part[2];
            }
            handed += parts.size();
        }
        return handed;
    }

    int want(int member, int other, int square) {
        at(member);
        at(other);
        ask(member != other && square != 0 && square >= -1 && square <= 8000000);
        Integer before = wanted.put(key(member, other), square);
        return before == null ? -1 : before;
    }

    private int excess(int one, int other) {
        int due = wanted.getOrDefault(key(one, other), -1);
        return due < 0 ? 0 : square(one, other) - due;
    }

    int error() {
        int error = 0;
        for (int[] link : allLinks()) {
            error += Math.abs(excess(link[0], link[1]));
        }
        return error;
    }

    private static int step(long pull) {
        return (int) Math.min(50, Math.max(-50, pull / 1000000));
    }

    private static int kept(int place) {
        return Math.min(1000, Math.max(-1000, place));
    }

    int settle(int rounds) {
        ask(rounds >= 1 && rounds <= 50);
        for (int round = 0; round < rounds; round++) {
            List<int[]> places = new ArrayList<>();
            for (int member = 0; member < all.size(); member++) {
                long pullX = 0;
                long pullY = 0;
                for (int other : heardBy(member)) {
                    pullX += (long) excess(member, other) * (at(member).x - at(other).x);
                    pullY += (long) excess(member, other) * (at(member).y - at(other).y);
                }
                places.add(new int[] {at(member).x - step(pullX), at(member).y - step(pullY)});
            }
            for (int member = 0; member < all.size(); member++) {
                at(member).x = kept(places.get(member)[0]);
                at(member).y = kept(places.get(member)[1]);
            }
        }
        return error();
    }

    private int rankOf(List<int[]> links) {
        long[][] matrix = new long[links.size()][16];
        for (int row = 0; row < links.size(); row++) {
            int low = links.get(row)[0];
            int high = links.get(row)[1];
            matrix[row][2 * low] = spotX[low] - spotX[high];
            matrix[row][2 * high] = spotX[high] - spotX[low];
            matrix[row][2 * low + 1] = spotY[low] - spotY[high];
            matrix[row][2 * high + 1] = spotY[high] - spotY[low];
        }
        return (int) eliminate(matrix, 16)[0];
    }

    int rank() {
        return rankOf(allLinks());
    }

    int isRigid() {
        int up = thoseUp().size();
        return up >= 2 && groups() == 1 && rank() == 2 * up - 3 ? 1 : 0;
    }

    int isSpare(int member, int other) {
        if (areLinked(member, other) == 0) {
            throw new NoSuchElementException();
        }
        List<int[]> rest = allLinks();
        rest.removeIf(link -> key(link[0], link[1]) == key(member, other));
        return rankOf(rest) == rank() ? 1 : 0;
    }
}
