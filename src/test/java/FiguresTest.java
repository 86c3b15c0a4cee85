/** Promises 24 to 26: wanted squares, the error of a figure and rounds of settling. */
public final class FiguresTest {
    private static final Check check = new Check();

    public static void main(String[] args) {
        checkWant();
        checkWantThrows();
        checkError();
        checkErrorCountsLinksAlone();
        checkSteps();
        checkLongestStep();
        checkEdgeOfThePlane();
        checkStepsAreToldAhead();
        checkLinksOfEachRound();
        checkWhoStays();
        checkSettleThrows();
        check.finish();
    }

    private static Formationist at(int range, int... places) {
        Formationist made = new Formationist();
        made.setRange(range);
        for (int place = 0; place < places.length; place += 2) {
            made.addMember(places[place], places[place + 1]);
        }
        return made;
    }

    private static void duePlaces(String call, Formationist made, int... places) {
        for (int member = 0; member < places.length / 2; member++) {
            check.due(call + ": xOf(" + member + ")", made.xOf(member), places[2 * member]);
            check.due(call + ": yOf(" + member + ")", made.yOf(member), places[2 * member + 1]);
        }
    }

    private static void checkWant() {
        Formationist made = at(100, 0, 0, 3, 4, 0, 10);
        check.due("want(0, 1, 1)", made.want(0, 1, 1), -1);
        check.due("want(1, 0, 8000000)", made.want(1, 0, 8000000), 1);
        check.due("want(0, 1, NONE)", made.want(0, 1, Formationist.NONE), 8000000);
        check.due("want(0, 1, NONE) again", made.want(0, 1, Formationist.NONE), -1);
        check.due("want(0, 2, 7)", made.want(0, 2, 7), -1);
        check.due("want(1, 2, 8) is another pair", made.want(1, 2, 8), -1);
        check.due("want(2, 0, 9)", made.want(2, 0, 9), 7);
        made.move(2, 900, 900);
        made.toggle(0);
        check.due("want(2, 0, 10) of two apart", made.want(2, 0, 10), 9);
    }

    private static void checkWantThrows() {
        Formationist made = at(100, 0, 0, 3, 4);
        made.want(0, 1, 5);
        check.noIndex("want(0, 2, 5)", () -> made.want(0, 2, 5));
        check.noIndex("want(2, 0, 0)", () -> made.want(2, 0, 0));
        check.noIndex("want(-1, -1, 5)", () -> made.want(-1, -1, 5));
        check.noArgument("want(1, 1, 5)", () -> made.want(1, 1, 5));
        check.noArgument("want(1, 1, NONE)", () -> made.want(1, 1, Formationist.NONE));
        check.noArgument("want(0, 1, 0)", () -> made.want(0, 1, 0));
        check.noArgument("want(0, 1, -2)", () -> made.want(0, 1, -2));
        check.noArgument("want(0, 1, 8000001)", () -> made.want(0, 1, 8000001));
        check.due("want after throws", made.want(0, 1, 6), 5);
    }

    private static void checkError() {
        Formationist made = at(100, 0, 0, 3, 4, 0, 10);
        check.due("error() without wishes", made.error(), 0);
        made.want(0, 1, 25);
        check.due("error() of a wish come true", made.error(), 0);
        made.want(1, 0, 5);
        check.due("error() of one too far", made.error(), 20);
        made.want(2, 0, 130);
        check.due("error() adds without signs", made.error(), 50);
        made.want(1, 2, 8000000);
        check.due("error() of three", made.error(), 50 + 8000000 - 45);
        Formationist heap = at(0, 0, 0, 0, 0, 0, 0, 0, 0, 0, 0, 0, 0, 0, 0, 0, 0);
        for (int low = 0; low < 8; low++) {
            for (int high = low + 1; high < 8; high++) {
                heap.want(low, high, 8000000);
            }
        }
        check.due("the greatest error()", heap.error(), 28 * 8000000);
    }

    private static void checkErrorCountsLinksAlone() {
        Formationist made = at(100, 0, 0, 3, 4, 0, 10);
        made.want(0, 1, 5);
        made.want(0, 2, 130);
        made.block(0, 1);
        check.due("error() without a blocked link", made.error(), 30);
        made.block(0, 1);
        made.toggle(2);
        check.due("error() without one that is down", made.error(), 20);
        made.move(0, 300, 0);
        check.due("error() without one out of range", made.error(), 0);
    }

    private static void checkSteps() {
        // The square is 160000 and the wanted one 10000, so g is 150000 * -400 = -60000000 for 0.
        Formationist made = at(1000, 0, 0, 400, 0);
        made.want(0, 1, 10000);
        check.due("settle(1)", made.settle(1), 300 * 300 - 10000);
        duePlaces("nearer by 50 each", made, 50, 0, 350, 0);
        // Now 80000 * 300 is 24000000, a step of 24 each.
        check.due("settle(1) again", made.settle(1), 252 * 252 - 10000);
        duePlaces("nearer by 24 each", made, 74, 0, 326, 0);
        Formationist close = at(1000, 0, 0, 0, -100);
        close.want(0, 1, 250000);
        // 240000 * 100 is 24000000, away from each other.
        check.due("settle(1) of two close", close.settle(1), 250000 - 148 * 148);
        duePlaces("away by 24 each", close, 0, 24, 0, -124);
        Formationist slow = at(1000, 0, 0, 100, 50);
        slow.want(0, 1, 32499);
        // 19999 * 100 is 1999900: a step of 1 for x, and of 999950, none, for y.
        check.due("settle(1) towards nought", slow.settle(1), 32499 - 102 * 102 - 50 * 50);
        duePlaces("rounded towards nought", slow, -1, 0, 101, 50);
    }

    private static void checkLongestStep() {
        Formationist made = at(3000, -1000, -1000, 1000, 1000);
        made.want(0, 1, 1);
        made.settle(1);
        duePlaces("the longest step", made, -950, -950, 950, 950);
        made.settle(5);
        duePlaces("five steps more", made, -700, -700, 700, 700);
        // Two signs for one member, and all eight in the sum.
        Formationist heap = at(3000, 0, 0, 1000, -1000, 1000, -1000, 1000, -1000, 1000, -1000,
                1000, -1000, 1000, -1000, 1000, -1000);
        for (int member = 1; member < 8; member++) {
            heap.want(0, member, 1);
        }
        heap.settle(1);
        duePlaces("one against seven", heap, 50, -50, 950, -950, 950, -950, 950, -950);
    }

    private static void checkEdgeOfThePlane() {
        Formationist made = at(3000, 980, -980, 900, -900);
        made.want(0, 1, 8000000);
        made.settle(1);
        duePlaces("kept on the plane", made, 1000, -1000, 850, -850);
        made.settle(50);
        duePlaces("pushed into corners", made, 1000, -1000, -1000, 1000);
        check.due("error() in the corners", made.error(), 0);
        Formationist other = at(3000, -999, 999, -990, 990);
        other.want(0, 1, 8000000);
        other.settle(1);
        check.due("the lower edge of x", other.xOf(0), -1000);
        check.due("the upper edge of y", other.yOf(0), 1000);
    }

    private static void checkStepsAreToldAhead() {
        // 1 is drawn to both sides alike and must not see that 0 has stepped already.
        Formationist made = at(1000, -300, 0, 0, 0, 300, 0);
        made.want(0, 1, 10000);
        made.want(1, 2, 10000);
        made.settle(1);
        duePlaces("both sides alike", made, -276, 0, 0, 0, 276, 0);
        // y must be told by x ahead of the round too.
        Formationist turned = at(1000, 0, 0, 300, 300);
        turned.want(0, 1, 100000);
        turned.settle(1);
        duePlaces("x and y alike", turned, 24, 24, 276, 276);
    }

    private static void checkLinksOfEachRound() {
        // After a round both are out of range, so later rounds leave them.
        Formationist made = at(100, 0, 0, 100, 0);
        made.want(0, 1, 1000000);
        check.due("settle(3) till out of range", made.settle(3), 0);
        duePlaces("out of range after one round", made, -50, 0, 150, 0);
    }

    private static void checkWhoStays() {
        Formationist made = at(1000, 0, 0, 400, 0, 0, 400);
        made.want(0, 1, 10000);
        made.toggle(1);
        check.due("settle(1), one down", made.settle(1), 0);
        duePlaces("one down", made, 0, 0, 400, 0, 0, 400);
        made.toggle(1);
        made.block(0, 1);
        check.due("settle(1), one blocked", made.settle(1), 0);
        duePlaces("one blocked", made, 0, 0, 400, 0, 0, 400);
        made.block(0, 1);
        made.settle(1);
        duePlaces("one without a wish", made, 50, 0, 350, 0, 0, 400);
        Formationist same = at(1000, 5, 5, 5, 5);
        same.want(0, 1, 8000000);
        check.due("settle(50) at one place", same.settle(50), 8000000);
        duePlaces("one place", same, 5, 5, 5, 5);
    }

    private static void checkSettleThrows() {
        Formationist made = at(1000, 0, 0, 400, 0);
        made.want(0, 1, 10000);
        check.noArgument("settle(0)", () -> made.settle(0));
        check.noArgument("settle(51)", () -> made.settle(51));
        check.noArgument("settle(-1)", () -> made.settle(-1));
        duePlaces("after throws", made, 0, 0, 400, 0);
        check.due("settle(50) of none", new Formationist().settle(50), 0);
    }
}
