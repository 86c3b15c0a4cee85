import java.util.NoSuchElementException;
import java.util.function.Consumer;

/**
 * Each exception that a throws clause names, at the first value that is refused on either side;
 * each pair of them where both apply; and that a call that throws changes nothing.
 */
public final class RefusedCallsTest {
    private static final int LEAST = Integer.MIN_VALUE;
    private static final int GREATEST = Integer.MAX_VALUE;
    /** No number of a member in an object with four. */
    private static final int[] NO_MEMBERS = {4, 5, 7, 8, -1, -2, LEAST, GREATEST};
    private static final int[] NO_PLACES = {-1001, 1001, LEAST, GREATEST};
    private static final int[] NO_VALUES = {-1000001, 1000001, LEAST, GREATEST};
    private static final int[] NO_ROUNDS = {0, 51, -1, LEAST, GREATEST};
    private static final int[] NO_SQUARES = {0, -2, 8000001, LEAST, GREATEST};
    private static final int[] NO_PRIORITIES = {-1, 100, LEAST, GREATEST};
    private static final Check check = new Check();

    public static void main(String[] args) {
        addMemberOutOfRange();
        addMemberBeyondEight();
        addMemberOutOfRangeBeyondEight();
        moveOfNone();
        moveOutOfRange();
        moveOfNoneOutOfRange();
        setPriorityOfNone();
        setPriorityOutOfRange();
        setPriorityOfNoneOutOfRange();
        setRangeOutOfRange();
        blockOfNone();
        blockOfTheSame();
        blockOfTheSameThatIsNone();
        askingForNone();
        areLinkedOfNone();
        setEstimateOfNone();
        setEstimateOutOfRange();
        setEstimateOfNoneOutOfRange();
        setSumOfNone();
        setSumOutOfRange();
        setSumOfNoneOutOfRange();
        roundsOutOfRange();
        wantOfNone();
        wantOfTheSame();
        wantOutOfRange();
        wantWithSeveralFaults();
        isSpareOfNone();
        isSpareOfTheSame();
        isSpareOfTwoNotLinked();
        nothingIsTakenWithoutMembers();
        check.finish();
    }

    private static void refused(String call, Class<? extends RuntimeException> due, int members,
            Consumer<Formationist> made) {
        Formationist tried = Formations.busy(members);
        check.dueThrow(call, due, () -> made.accept(tried));
        check.same(call + " leaves all as it was: the story", Story.of(tried),
                Story.of(Formations.busy(members)));
    }

    private static void noIndex(String call, Consumer<Formationist> made) {
        refused(call, IndexOutOfBoundsException.class, 4, made);
    }

    private static void noArgument(String call, Consumer<Formationist> made) {
        refused(call, IllegalArgumentException.class, 4, made);
    }

    private static void notLinked(String call, Consumer<Formationist> made) {
        refused(call, NoSuchElementException.class, 4, made);
    }

    private static String told(String call, int... arguments) {
        String text = java.util.Arrays.toString(arguments);
        return call + "(" + text.substring(1, text.length() - 1) + ")";
    }

    // ---- members

    private static void addMemberOutOfRange() {
        for (int place : NO_PLACES) {
            noArgument(told("addMember", place, 0), made -> made.addMember(place, 0));
            noArgument(told("addMember", 0, place), made -> made.addMember(0, place));
            noArgument(told("addMember", place, place), made -> made.addMember(place, place));
            refused(told("first addMember", place, 0), IllegalArgumentException.class, 0,
                    made -> made.addMember(place, 0));
        }
    }

    private static void addMemberBeyondEight() {
        refused("a ninth addMember(0, 0)", IllegalStateException.class, 8,
                made -> made.addMember(0, 0));
        refused("a ninth addMember(-1000, 1000)", IllegalStateException.class, 8,
                made -> made.addMember(-1000, 1000));
        refused("a ninth addMember(1000, -1000)", IllegalStateException.class, 8,
                made -> made.addMember(1000, -1000));
    }

    private static void addMemberOutOfRangeBeyondEight() {
        for (int place : NO_PLACES) {
            refused(told("a ninth addMember", place, 0), IllegalArgumentException.class, 8,
                    made -> made.addMember(place, 0));
            refused(told("a ninth addMember", 0, place), IllegalArgumentException.class, 8,
                    made -> made.addMember(0, place));
        }
    }

    private static void moveOfNone() {
        for (int none : NO_MEMBERS) {
            noIndex(told("move", none, 1, 2), made -> made.move(none, 1, 2));
        }
        refused("move(8, 1, 2)", IndexOutOfBoundsException.class, 8, made -> made.move(8, 1, 2));
    }

    private static void moveOutOfRange() {
        for (int place : NO_PLACES) {
            noArgument(told("move", 0, place, 1), made -> made.move(0, place, 1));
            noArgument(told("move", 3, 1, place), made -> made.move(3, 1, place));
        }
    }

    private static void moveOfNoneOutOfRange() {
        for (int none : NO_MEMBERS) {
            noIndex(told("move", none, 1001, 0), made -> made.move(none, 1001, 0));
            noIndex(told("move", none, 0, -1001), made -> made.move(none, 0, -1001));
        }
    }

    private static void setPriorityOfNone() {
        for (int none : NO_MEMBERS) {
            noIndex(told("setPriority", none, 1), made -> made.setPriority(none, 1));
        }
    }

    private static void setPriorityOutOfRange() {
        for (int priority : NO_PRIORITIES) {
            noArgument(told("setPriority", 3, priority), made -> made.setPriority(3, priority));
        }
    }

    private static void setPriorityOfNoneOutOfRange() {
        for (int none : NO_MEMBERS) {
            noIndex(told("setPriority", none, -1), made -> made.setPriority(none, -1));
            noIndex(told("setPriority", none, 100), made -> made.setPriority(none, 100));
        }
    }

    private static void setRangeOutOfRange() {
        for (int range : new int[] {-1, 3001, LEAST, GREATEST}) {
            noArgument(told("setRange", range), made -> made.setRange(range));
        }
    }

    private static void blockOfNone() {
        for (int none : NO_MEMBERS) {
            noIndex(told("block", none, 0), made -> made.block(none, 0));
            noIndex(told("block", 0, none), made -> made.block(0, none));
        }
        noIndex("block(4, 5)", made -> made.block(4, 5));
    }

    private static void blockOfTheSame() {
        for (int member = 0; member < 4; member++) {
            int same = member;
            noArgument(told("block", same, same), made -> made.block(same, same));
        }
    }

    private static void blockOfTheSameThatIsNone() {
        for (int none : NO_MEMBERS) {
            noIndex(told("block", none, none), made -> made.block(none, none));
        }
    }

    private static void askingForNone() {
        for (int none : NO_MEMBERS) {
            noIndex(told("toggle", none), made -> made.toggle(none));
            noIndex(told("xOf", none), made -> made.xOf(none));
            noIndex(told("yOf", none), made -> made.yOf(none));
            noIndex(told("degree", none), made -> made.degree(none));
            noIndex(told("leader", none), made -> made.leader(none));
            noIndex(told("estimate", none), made -> made.estimate(none));
            noIndex(told("sum", none), made -> made.sum(none));
            noIndex(told("weight", none), made -> made.weight(none));
        }
    }

    // ---- links, rounds

    private static void areLinkedOfNone() {
        for (int none : NO_MEMBERS) {
            noIndex(told("areLinked", none, 0), made -> made.areLinked(none, 0));
            noIndex(told("areLinked", 0, none), made -> made.areLinked(0, none));
            noIndex(told("areLinked", none, none), made -> made.areLinked(none, none));
        }
    }

    private static void setEstimateOfNone() {
        for (int none : NO_MEMBERS) {
            noIndex(told("setEstimate", none, 1), made -> made.setEstimate(none, 1));
        }
    }

    private static void setEstimateOutOfRange() {
        for (int value : NO_VALUES) {
            noArgument(told("setEstimate", 3, value), made -> made.setEstimate(3, value));
        }
    }

    private static void setEstimateOfNoneOutOfRange() {
        for (int none : NO_MEMBERS) {
            noIndex(told("setEstimate", none, 1000001),
                    made -> made.setEstimate(none, 1000001));
            noIndex(told("setEstimate", none, -1000001),
                    made -> made.setEstimate(none, -1000001));
        }
    }

    private static void setSumOfNone() {
        for (int none : NO_MEMBERS) {
            noIndex(told("setSum", none, 1), made -> made.setSum(none, 1));
        }
    }

    private static void setSumOutOfRange() {
        for (int value : NO_VALUES) {
            noArgument(told("setSum", 3, value), made -> made.setSum(3, value));
        }
    }

    private static void setSumOfNoneOutOfRange() {
        for (int none : NO_MEMBERS) {
            noIndex(told("setSum", none, 1000001), made -> made.setSum(none, 1000001));
            noIndex(told("setSum", none, -1000001), made -> made.setSum(none, -1000001));
        }
    }

    private static void roundsOutOfRange() {
        for (int rounds : NO_ROUNDS) {
            noArgument(told("agree", rounds), made -> made.agree(rounds));
            noArgument(told("spread", rounds), made -> made.spread(rounds));
            noArgument(told("settle", rounds), made -> made.settle(rounds));
            Class<? extends RuntimeException> due = IllegalArgumentException.class;
            refused(told("agree of none", rounds), due, 0, made -> made.agree(rounds));
            refused(told("spread of none", rounds), due, 0, made -> made.spread(rounds));
            refused(told("settle of none", rounds), due, 0, made -> made.settle(rounds));
        }
    }

    // ---- figures

    private static void wantOfNone() {
        for (int none : NO_MEMBERS) {
            noIndex(told("want", none, 0, 9), made -> made.want(none, 0, 9));
            noIndex(told("want", 0, none, 9), made -> made.want(0, none, 9));
            noIndex(told("want", 0, none, -1), made -> made.want(0, none, Formationist.NONE));
        }
        noIndex("want(4, 5, 9)", made -> made.want(4, 5, 9));
    }

    private static void wantOfTheSame() {
        for (int member = 0; member < 4; member++) {
            int same = member;
            noArgument(told("want", same, same, 9), made -> made.want(same, same, 9));
            noArgument(told("want", same, same, -1),
                    made -> made.want(same, same, Formationist.NONE));
        }
    }

    private static void wantOutOfRange() {
        for (int square : NO_SQUARES) {
            noArgument(told("want", 0, 1, square), made -> made.want(0, 1, square));
            noArgument(told("want", 3, 0, square), made -> made.want(3, 0, square));
        }
    }

    private static void wantWithSeveralFaults() {
        for (int none : NO_MEMBERS) {
            noIndex(told("want", none, none, 9), made -> made.want(none, none, 9));
            noIndex(told("want", none, 0, 0), made -> made.want(none, 0, 0));
            noIndex(told("want", 0, none, 8000001), made -> made.want(0, none, 8000001));
            noIndex(told("want", none, none, -2), made -> made.want(none, none, -2));
        }
        noArgument("want(1, 1, 0)", made -> made.want(1, 1, 0));
        noArgument("want(1, 1, 8000001)", made -> made.want(1, 1, 8000001));
    }

    // ---- rigidity

    private static void isSpareOfNone() {
        for (int none : NO_MEMBERS) {
            noIndex(told("isSpare", none, 0), made -> made.isSpare(none, 0));
            noIndex(told("isSpare", 0, none), made -> made.isSpare(0, none));
            noIndex(told("isSpare", none, none), made -> made.isSpare(none, none));
        }
    }

    private static void isSpareOfTheSame() {
        for (int member = 0; member < 4; member++) {
            int same = member;
            notLinked(told("isSpare", same, same), made -> made.isSpare(same, same));
        }
    }

    private static void isSpareOfTwoNotLinked() {
        notLinked("isSpare of a blocked link", made -> made.isSpare(0, 3));
        notLinked("isSpare of a blocked link, turned", made -> made.isSpare(3, 0));
        notLinked("isSpare, the other one down", made -> made.isSpare(1, 2));
        notLinked("isSpare, the one down", made -> made.isSpare(2, 1));
        Formationist apart = Formations.pair(0, 0, 60, 80);
        apart.setRange(99);
        check.dueThrow("isSpare just out of range", NoSuchElementException.class,
                () -> apart.isSpare(0, 1));
        apart.setRange(100);
        check.due("isSpare just in range", apart.isSpare(0, 1), false);
    }

    private static void nothingIsTakenWithoutMembers() {
        Class<? extends RuntimeException> due = IndexOutOfBoundsException.class;
        refused("move of none", due, 0, made -> made.move(0, 0, 0));
        refused("toggle of none", due, 0, made -> made.toggle(0));
        refused("setPriority of none", due, 0, made -> made.setPriority(0, 0));
        refused("block of none", due, 0, made -> made.block(0, 1));
        refused("xOf of none", due, 0, made -> made.xOf(0));
        refused("yOf of none", due, 0, made -> made.yOf(0));
        refused("areLinked of none", due, 0, made -> made.areLinked(0, 0));
        refused("degree of none", due, 0, made -> made.degree(0));
        refused("leader of none", due, 0, made -> made.leader(0));
        refused("setEstimate of none", due, 0, made -> made.setEstimate(0, 0));
        refused("estimate of none", due, 0, made -> made.estimate(0));
        refused("setSum of none", due, 0, made -> made.setSum(0, 0));
        refused("sum of none", due, 0, made -> made.sum(0));
        refused("weight of none", due, 0, made -> made.weight(0));
        refused("want of none", due, 0, made -> made.want(0, 1, 9));
        refused("isSpare of none", due, 0, made -> made.isSpare(0, 0));
    }
}
