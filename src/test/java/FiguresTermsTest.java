/** The edges that the document's Terms name for figures and their settling. */
public final class FiguresTermsTest {
    private static final Check check = new Check();

    public static void main(String[] args) {
        stepIsRoundedTowardsNought();
        stepIsNotMoreThanFifty();
        placesStayOnThePlane();
        stepsOfBothWaysAtOnce();
        pullsAddUp();
        pullsOnBothSides();
        greatestPull();
        onlyLinksPull();
        onlyWantedSquaresPull();
        oneThatIsDownStays();
        wantedSquareIsOfAPair();
        stepsAreToldAhead();
        linksAreThoseAheadOfEachRound();
        errorHasNoSign();
        errorCountsLinksWithAWantedSquare();
        errorFromNoneToTheGreatest();
        settleAnswersTheErrorThen();
        check.finish();
    }

    private static void duePlace(String call, Formationist made, int member, int x, int y) {
        check.due(call + ": xOf(" + member + ")", made.xOf(member), x);
        check.due(call + ": yOf(" + member + ")", made.yOf(member), y);
    }

    /** g is (apart * apart - square) * apart, with its sign turned for the lower place. */
    private static void stepIsRoundedTowardsNought() {
        dueStep(1000, 1000000, 0);
        dueStep(1000, 999001, 0);
        // 1001 * 999 is 999999, one less than a step.
        dueStep(999, 997000, 0);
        dueStep(1000, 999000, 1);
        dueStep(1000, 998001, 1);
        dueStep(1000, 998000, 2);
        dueStep(1000, 1000999, 0);
        dueStep(999, 999002, 0);
        dueStep(1000, 1001000, -1);
        dueStep(1000, 1001999, -1);
        dueStep(1000, 1002000, -2);
    }

    private static void stepIsNotMoreThanFifty() {
        dueStep(1000, 950001, 49);
        dueStep(1000, 950000, 50);
        dueStep(1000, 949001, 50);
        dueStep(1000, 949000, 50);
        dueStep(1000, 1, 50);
        dueStep(1000, 1049999, -49);
        dueStep(1000, 1050000, -50);
        dueStep(1000, 1050999, -50);
        dueStep(1000, 1051000, -50);
        dueStep(1000, 8000000, -50);
    }

    /** Two members so far apart, along x and along y, each go so many steps to the other. */
    private static void dueStep(int apart, int square, int step) {
        String call = "settle(1), " + apart + " apart, wanted " + square;
        for (int low = 0; low < 2; low++) {
            int high = 1 - low;
            Formationist made = Formations.pair(0, 0, 0, 0);
            made.want(0, 1, square);
            made.move(low, -500, 7);
            made.move(high, apart - 500, 7);
            made.settle(1);
            duePlace(call, made, low, step - 500, 7);
            duePlace(call, made, high, apart - 500 - step, 7);
            made.move(low, -7, -500);
            made.move(high, -7, apart - 500);
            made.settle(1);
            duePlace(call + ", along y", made, low, -7, step - 500);
            duePlace(call + ", along y", made, high, -7, apart - 500 - step);
        }
    }

    /** Two members 1000 apart drive each other 20 steps on; the one is near the edge. */
    private static void placesStayOnThePlane() {
        int[] places = {978, 979, 980, 981, 982, 999, 1000};
        int[] dues = {998, 999, 1000, 1000, 1000, 1000, 1000};
        for (int number = 0; number < places.length; number++) {
            for (int sign : new int[] {1, -1}) {
                int place = sign * places[number];
                int due = sign * dues[number];
                int other = place - sign * 1000;
                Formationist made = Formations.pair(place, 3, other, 3);
                made.want(0, 1, 1020000);
                made.settle(1);
                duePlace("edge, from x " + place, made, 0, due, 3);
                duePlace("edge, from x " + place, made, 1, other - sign * 20, 3);
                made.move(0, 3, place);
                made.move(1, 3, other);
                made.settle(1);
                duePlace("edge, from y " + place, made, 0, 3, due);
                duePlace("edge, from y " + place, made, 1, 3, other - sign * 20);
            }
        }
    }

    private static void stepsOfBothWaysAtOnce() {
        // The square is 50000, so 10000 are over: two steps along x, one along y.
        Formationist made = Formations.pair(0, 0, 200, -100);
        made.want(0, 1, 40000);
        check.due("settle(1) aslant", made.settle(1), 196 * 196 + 98 * 98 - 40000);
        duePlace("aslant", made, 0, 2, -1);
        duePlace("aslant", made, 1, 198, -99);
    }

    private static void pullsAddUp() {
        // Each of seven pulls with 300000, so only together they make two steps.
        Formationist made = Formations.heap(8);
        made.setRange(3000);
        for (int member = 1; member < 8; member++) {
            made.move(member, 105, 5);
            made.want(0, member, 7000);
        }
        made.settle(1);
        duePlace("pulled by seven", made, 0, 7, 5);
        duePlace("pulling", made, 7, 105, 5);
    }

    private static void pullsOnBothSides() {
        Formationist made = Formations.pair(-300, 0, 0, 0);
        made.addMember(300, 0);
        made.want(0, 1, 10000);
        made.want(1, 2, 10000);
        made.settle(1);
        duePlace("the left one", made, 0, -276, 0);
        duePlace("the one between", made, 1, 0, 0);
        duePlace("the right one", made, 2, 276, 0);
    }

    /** Pulls of seven are over 10 to the 11th and must not wrap around. */
    private static void greatestPull() {
        Formationist made = Formations.heap(8);
        made.setRange(3000);
        made.move(0, -1000, -1000);
        for (int member = 1; member < 8; member++) {
            made.move(member, 1000, 1000);
            made.want(0, member, 1);
        }
        check.due("error() of the farthest", made.error(), 7 * 7999999);
        made.settle(1);
        duePlace("pulled by seven farthest", made, 0, -950, -950);
        duePlace("pulling farthest", made, 7, 950, 950);
    }

    private static void onlyLinksPull() {
        Formationist made = Formations.pair(0, 0, 400, 0);
        made.want(0, 1, 10000);
        made.block(0, 1);
        check.due("settle(1), blocked", made.settle(1), 0);
        duePlace("blocked", made, 0, 0, 0);
        made.block(0, 1);
        made.setRange(399);
        check.due("settle(1), just out of range", made.settle(1), 0);
        duePlace("just out of range", made, 0, 0, 0);
        made.setRange(400);
        check.due("settle(1), just in range", made.settle(1), 300 * 300 - 10000);
        duePlace("just in range", made, 0, 50, 0);
        duePlace("just in range", made, 1, 350, 0);
    }

    private static void onlyWantedSquaresPull() {
        Formationist made = Formations.pair(0, 0, 400, 0);
        made.addMember(0, 400);
        made.want(0, 2, 1);
        made.want(0, 2, Formationist.NONE);
        made.want(0, 1, 10000);
        made.settle(1);
        duePlace("with one wanted", made, 0, 50, 0);
        duePlace("with one wanted", made, 1, 350, 0);
        duePlace("with none wanted", made, 2, 0, 400);
    }

    private static void oneThatIsDownStays() {
        for (int down = 0; down < 2; down++) {
            Formationist made = Formations.pair(0, 0, 400, 0);
            made.want(0, 1, 10000);
            made.toggle(down);
            check.due("settle(50), one down", made.settle(50), 0);
            duePlace("one down", made, 0, 0, 0);
            duePlace("one down", made, 1, 400, 0);
        }
    }

    private static void wantedSquareIsOfAPair() {
        Formationist made = Formations.heap(8);
        int square = 0;
        for (int high = 0; high < 8; high++) {
            for (int low = 0; low < high; low++) {
                square++;
                check.due("want of a new pair", made.want(high, low, square),
                        Formationist.NONE);
            }
        }
        check.due("error() of 1 to 28", made.error(), 28 * 29 / 2);
        int due = 0;
        for (int high = 0; high < 8; high++) {
            for (int low = 0; low < high; low++) {
                due++;
                check.due("want turned", made.want(low, high, 8000000), due);
            }
        }
    }

    private static void stepsAreToldAhead() {
        for (int first = 0; first < 2; first++) {
            Formationist made = Formations.pair(0, 0, 0, 0);
            made.move(first, 0, 0);
            made.move(1 - first, 300, 300);
            made.want(0, 1, 100000);
            made.settle(1);
            duePlace("told ahead", made, first, 24, 24);
            duePlace("told ahead", made, 1 - first, 276, 276);
        }
    }

    private static void linksAreThoseAheadOfEachRound() {
        // The first round brings 1 and 2 into range, the second one moves them.
        Formationist made = Formations.pair(-200, 0, 200, 0);
        made.setRange(400);
        made.addMember(-200, 0);
        made.block(0, 2);
        made.move(2, -201, 0);
        made.want(0, 1, 10000);
        made.want(1, 2, 10000);
        made.settle(1);
        duePlace("not in range", made, 2, -201, 0);
        duePlace("in range", made, 1, 150, 0);
        made.settle(1);
        // 351 apart: (123201 - 10000) * 351 is 39733551.
        duePlace("in range then", made, 2, -162, 0);
        // And a round that takes them out of range is the last that moves them.
        Formationist apart = Formations.pair(0, 0, 100, 0);
        apart.setRange(100);
        apart.want(0, 1, 1000000);
        check.due("settle(3), out of range after one", apart.settle(3), 0);
        duePlace("out of range after one", apart, 0, -50, 0);
        duePlace("out of range after one", apart, 1, 150, 0);
    }

    private static void errorHasNoSign() {
        Formationist made = Formations.pair(0, 0, 3, 4);
        for (int excess = -2; excess <= 2; excess++) {
            made.want(0, 1, 25 - excess);
            check.due("error() with " + excess + " over", made.error(), Math.abs(excess));
        }
        made.addMember(3, 4);
        made.want(0, 1, 20);
        made.want(0, 2, 30);
        check.due("error() of 5 and -5", made.error(), 10);
    }

    private static void errorCountsLinksWithAWantedSquare() {
        Formationist made = Formations.pair(0, 0, 60, 80);
        made.setRange(100);
        made.addMember(0, 0);
        check.due("error() of links alone", made.error(), 0);
        made.want(0, 1, 9000);
        check.due("error() of one link", made.error(), 1000);
        made.setRange(99);
        check.due("error(), just out of range", made.error(), 0);
        made.setRange(100);
        check.due("error(), just in range", made.error(), 1000);
        made.block(1, 0);
        check.due("error(), blocked", made.error(), 0);
        made.block(0, 1);
        made.toggle(1);
        check.due("error(), one down", made.error(), 0);
    }

    private static void errorFromNoneToTheGreatest() {
        check.due("error() without members", new Formationist().error(), 0);
        check.due("error() of one", Formations.heap(1).error(), 0);
        Formationist heap = Formations.heap(8);
        Formationist corners = Formations.heap(8);
        corners.setRange(3000);
        for (int high = 0; high < 8; high++) {
            corners.move(high, high % 2 * 2000 - 1000, high % 2 * 2000 - 1000);
            for (int low = 0; low < high; low++) {
                heap.want(low, high, 8000000);
                corners.want(low, high, 1);
            }
        }
        check.due("error() of eight at one place", heap.error(), 28 * 8000000);
        check.due("error() of fours in two corners", corners.error(), 16 * 7999999 + 12);
    }

    private static void settleAnswersTheErrorThen() {
        Formationist made = Formations.pair(0, 0, 400, 0);
        made.want(0, 1, 10000);
        check.due("error() before", made.error(), 150000);
        check.due("settle(1)", made.settle(1), 80000);
        check.due("error() then", made.error(), 80000);
        check.due("settle(2)", made.settle(2), made.error());
        check.due("settle(1) without members", new Formationist().settle(1), 0);
        check.due("settle(50) without members", new Formationist().settle(50), 0);
        Formationist same = Formations.pair(5, 5, 5, 5);
        same.want(0, 1, 8000000);
        check.due("settle(50) at one place", same.settle(50), 8000000);
        duePlace("at one place", same, 0, 5, 5);
        duePlace("at one place", same, 1, 5, 5);
    }
}
