import java.util.NoSuchElementException;

/** Promises 27 to 30: the rank, told twice, and whether a figure is rigid and a link spare. */
public final class RigidityTest {
    private static final Check check = new Check();

    public static void main(String[] args) {
        checkSmallFigures();
        checkFullFigures();
        checkRingsAndBars();
        checkTwoBodies();
        checkTwoSides();
        checkDoubleBanana();
        checkEachLooksAnew();
        checkIsRigidCountsThoseUp();
        checkIsSpare();
        checkIsSpareThrows();
        check.finish();
    }

    private static Formationist figure(int members, int... ends) {
        return Formations.figure(members, ends);
    }

    private static void dueRank(String name, Formationist made, int rank, boolean rigid) {
        check.due(name + ": rank()", made.rank(), rank);
        check.due(name + ": rankByCounting()", made.rankByCounting(), rank);
        check.due(name + ": isRigid()", made.isRigid(), rigid);
    }

    private static void checkSmallFigures() {
        dueRank("none", figure(0), 0, false);
        dueRank("one alone", figure(1), 0, false);
        dueRank("two apart", figure(2), 0, false);
        dueRank("two", figure(2, 0, 1), 1, true);
        dueRank("a bend", figure(3, 0, 1, 1, 2), 2, false);
        dueRank("a triangle", figure(3, 0, 1, 1, 2, 0, 2), 3, true);
        dueRank("a square", figure(4, 0, 1, 1, 2, 2, 3, 3, 0), 4, false);
        dueRank("a braced square", figure(4, 0, 1, 1, 2, 2, 3, 3, 0, 0, 2), 5, true);
    }

    private static void checkFullFigures() {
        for (int members = 2; members <= 8; members++) {
            Formationist made = new Formationist();
            for (int member = 0; member < members; member++) {
                made.addMember(member, 0);
            }
            dueRank("all of " + members, made, 2 * members - 3, true);
        }
    }

    private static void checkRingsAndBars() {
        Formationist ring = figure(8, 0, 1, 1, 2, 2, 3, 3, 4, 4, 5, 5, 6, 6, 7, 7, 0);
        dueRank("a ring of 8", ring, 8, false);
        Formationist strip = figure(8, 0, 1, 1, 2, 0, 2, 1, 3, 2, 3, 2, 4, 3, 4, 3, 5, 4, 5,
                4, 6, 5, 6, 5, 7, 6, 7);
        dueRank("a strip of triangles", strip, 13, true);
        strip.block(3, 4);
        dueRank("a strip without a bar", strip, 12, false);
        strip.block(0, 3);
        dueRank("the bar set where it is of no use", strip, 12, false);
        Formationist prism = figure(6, 0, 1, 1, 2, 0, 2, 3, 4, 4, 5, 3, 5, 0, 3, 1, 4, 2, 5);
        dueRank("a prism", prism, 9, true);
    }

    private static void checkTwoBodies() {
        Formationist apart = figure(6, 0, 1, 1, 2, 0, 2, 3, 4, 4, 5, 3, 5);
        dueRank("two triangles apart", apart, 6, false);
        Formationist hinged = figure(7, 0, 1, 0, 2, 0, 3, 1, 2, 1, 3, 2, 3, 3, 4, 3, 5, 3, 6,
                4, 5, 4, 6, 5, 6);
        // 12 links are enough in number for 7 members, but not where they lie.
        dueRank("two full fours on a hinge", hinged, 10, false);
        hinged.block(0, 4);
        dueRank("the hinge braced", hinged, 11, true);
    }

    private static void checkTwoSides() {
        Formationist threes = figure(6, 0, 3, 0, 4, 0, 5, 1, 3, 1, 4, 1, 5, 2, 3, 2, 4, 2, 5);
        dueRank("three and three", threes, 9, true);
        Formationist twoAndSix = figure(8, 0, 2, 0, 3, 0, 4, 0, 5, 0, 6, 0, 7, 1, 2, 1, 3, 1, 4,
                1, 5, 1, 6, 1, 7);
        dueRank("two and six", twoAndSix, 12, false);
        Formationist fours = figure(8, 0, 4, 0, 5, 0, 6, 0, 7, 1, 4, 1, 5, 1, 6, 1, 7, 2, 4,
                2, 5, 2, 6, 2, 7, 3, 4, 3, 5, 3, 6, 3, 7);
        dueRank("four and four", fours, 13, true);
    }

    private static void checkDoubleBanana() {
        // Two fives that share a pair which is not linked; not rigid in space, but on a plane.
        Formationist made = figure(8, 0, 2, 0, 3, 0, 4, 1, 2, 1, 3, 1, 4, 2, 3, 2, 4, 3, 4,
                0, 5, 0, 6, 0, 7, 1, 5, 1, 6, 1, 7, 5, 6, 5, 7, 6, 7);
        dueRank("a double banana", made, 13, true);
        check.due("a double banana: links()", made.links(), 18);
    }

    private static void checkEachLooksAnew() {
        Formationist made = figure(3, 0, 1, 1, 2, 0, 2);
        check.due("rankByCounting() at first", made.rankByCounting(), 3);
        made.block(0, 1);
        check.due("rank() right after a block", made.rank(), 2);
        made.toggle(2);
        check.due("rankByCounting() right after a toggle", made.rankByCounting(), 0);
        made.toggle(2);
        made.block(0, 1);
        check.due("isRigid() right after a block", made.isRigid(), true);
        made.setRange(0);
        made.move(1, 8, 9);
        check.due("isSpare right after a move", made.isSpare(0, 2), false);
        made.setRange(5);
        check.due("rank() right after a new range", made.rank(), 3);
    }

    private static void checkIsRigidCountsThoseUp() {
        Formationist made = figure(4, 0, 1, 1, 2, 0, 2, 2, 3);
        dueRank("a triangle with a tail", made, 4, false);
        made.toggle(3);
        dueRank("the tail down", made, 3, true);
        made.toggle(0);
        dueRank("two left", made, 1, true);
        made.toggle(1);
        dueRank("one left", made, 0, false);
        made.toggle(2);
        dueRank("none left", made, 0, false);
        made.toggle(0);
        made.toggle(3);
        dueRank("two that are apart", made, 0, false);
    }

    private static void checkIsSpare() {
        Formationist made = figure(5, 0, 1, 0, 2, 0, 3, 1, 2, 1, 3, 2, 3, 3, 4);
        check.due("one of a full four: isSpare", made.isSpare(0, 1), true);
        check.due("one of a full four, turned: isSpare", made.isSpare(3, 0), true);
        check.due("a tail: isSpare", made.isSpare(3, 4), false);
        check.due("isSpare takes no link away", made.links(), 7);
        dueRank("after isSpare", made, 6, false);
        made.block(0, 1);
        check.due("a braced square: isSpare", made.isSpare(2, 3), false);
        Formationist hinged = figure(6, 0, 1, 0, 2, 0, 3, 1, 2, 1, 3, 2, 3, 3, 4, 3, 5, 4, 5);
        check.due("in the full part: isSpare", hinged.isSpare(1, 2), true);
        check.due("in the other part: isSpare", hinged.isSpare(4, 5), false);
    }

    private static void checkIsSpareThrows() {
        Formationist made = figure(3, 0, 1, 1, 2, 0, 2);
        check.noIndex("isSpare(0, 3)", () -> made.isSpare(0, 3));
        check.noIndex("isSpare(3, 0)", () -> made.isSpare(3, 0));
        check.noIndex("isSpare(-1, -1)", () -> made.isSpare(-1, -1));
        check.noIndex("isSpare(0, -1)", () -> made.isSpare(0, -1));
        notLinked("isSpare(1, 1)", made, 1, 1);
        made.block(0, 1);
        notLinked("isSpare of a blocked link", made, 0, 1);
        made.toggle(2);
        notLinked("isSpare of one that is down", made, 2, 1);
        made.toggle(2);
        made.move(2, 500, 500);
        notLinked("isSpare of one out of range", made, 1, 2);
    }

    private static void notLinked(String call, Formationist made, int member, int other) {
        check.dueThrow(call, NoSuchElementException.class, () -> made.isSpare(member, other));
    }
}
