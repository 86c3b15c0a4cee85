/** The last value that each number of a call takes, on both sides, and the first one refused. */
public final class LastNumbersTest {
    private static final Check check = new Check();

    public static void main(String[] args) {
        placesOfAddMember();
        placesOfMove();
        numbersOfMembers();
        priorities();
        ranges();
        estimates();
        sums();
        squares();
        noneForASquare();
        roundsOfAgreement();
        roundsOfSpreading();
        roundsOfSettling();
        check.finish();
    }

    private static void placesOfAddMember() {
        Formationist made = new Formationist();
        check.due("addMember(-1000, -1000)", made.addMember(-1000, -1000), 0);
        check.due("addMember(-1000, 1000)", made.addMember(-1000, 1000), 1);
        check.due("addMember(1000, -1000)", made.addMember(1000, -1000), 2);
        check.due("addMember(1000, 1000)", made.addMember(1000, 1000), 3);
        check.noArgument("addMember(-1001, 0)", () -> made.addMember(-1001, 0));
        check.noArgument("addMember(1001, 0)", () -> made.addMember(1001, 0));
        check.noArgument("addMember(0, -1001)", () -> made.addMember(0, -1001));
        check.noArgument("addMember(0, 1001)", () -> made.addMember(0, 1001));
        duePlace("added", made, 0, -1000, -1000);
        duePlace("added", made, 1, -1000, 1000);
        duePlace("added", made, 2, 1000, -1000);
        duePlace("added", made, 3, 1000, 1000);
        check.due("members()", made.members(), 4);
    }

    private static void placesOfMove() {
        Formationist made = Formations.heap(2);
        made.move(1, -1000, 1000);
        duePlace("moved", made, 1, -1000, 1000);
        check.noArgument("move(1, -1001, 1000)", () -> made.move(1, -1001, 1000));
        check.noArgument("move(1, -1000, 1001)", () -> made.move(1, -1000, 1001));
        duePlace("kept", made, 1, -1000, 1000);
        made.move(1, 1000, -1000);
        duePlace("moved", made, 1, 1000, -1000);
        check.noArgument("move(1, 1001, -1000)", () -> made.move(1, 1001, -1000));
        check.noArgument("move(1, 1000, -1001)", () -> made.move(1, 1000, -1001));
        duePlace("kept", made, 1, 1000, -1000);
        duePlace("the other one", made, 0, 5, 5);
    }

    private static void duePlace(String call, Formationist made, int member, int x, int y) {
        check.due(call + ": xOf(" + member + ")", made.xOf(member), x);
        check.due(call + ": yOf(" + member + ")", made.yOf(member), y);
    }

    /** From one member to eight, the first number and the last are taken, those beside not. */
    private static void numbersOfMembers() {
        for (int members = 1; members <= 8; members++) {
            Formationist made = Formations.heap(members);
            for (int member : new int[] {0, members - 1}) {
                check.due("leader(" + member + ") of " + members, made.leader(member), 0);
                check.due("xOf(" + member + ") of " + members, made.xOf(member), 5);
                check.due("areLinked(0, " + member + ") of " + members,
                        made.areLinked(0, member), member != 0);
            }
            for (int none : new int[] {-1, members}) {
                check.noIndex("leader(" + none + ") of " + members, () -> made.leader(none));
                check.noIndex("xOf(" + none + ") of " + members, () -> made.xOf(none));
                check.noIndex("areLinked(0, " + none + ") of " + members,
                        () -> made.areLinked(0, none));
            }
        }
    }

    private static void priorities() {
        Formationist made = Formations.heap(1);
        check.due("setPriority(0, 99)", made.setPriority(0, 99), 0);
        check.noArgument("setPriority(0, 100)", () -> made.setPriority(0, 100));
        check.due("setPriority(0, 0)", made.setPriority(0, 0), 99);
        check.noArgument("setPriority(0, -1)", () -> made.setPriority(0, -1));
        check.due("setPriority(0, 1)", made.setPriority(0, 1), 0);
    }

    private static void ranges() {
        Formationist made = Formations.heap(2);
        check.due("setRange(0)", made.setRange(0), 100);
        check.noArgument("setRange(-1)", () -> made.setRange(-1));
        check.due("setRange(3000)", made.setRange(3000), 0);
        check.noArgument("setRange(3001)", () -> made.setRange(3001));
        check.due("setRange(1)", made.setRange(1), 3000);
    }

    private static void estimates() {
        Formationist made = Formations.heap(1);
        check.due("setEstimate(0, 1000000)", made.setEstimate(0, 1000000), 0);
        check.noArgument("setEstimate(0, 1000001)", () -> made.setEstimate(0, 1000001));
        check.due("estimate(0)", made.estimate(0), 1000000);
        check.due("setEstimate(0, -1000000)", made.setEstimate(0, -1000000), 1000000);
        check.noArgument("setEstimate(0, -1000001)", () -> made.setEstimate(0, -1000001));
        check.due("estimate(0)", made.estimate(0), -1000000);
        check.due("setEstimate(0, 0)", made.setEstimate(0, 0), -1000000);
        check.due("estimate(0)", made.estimate(0), 0);
    }

    private static void sums() {
        Formationist made = Formations.heap(1);
        check.due("setSum(0, 1000000)", made.setSum(0, 1000000), 0);
        check.noArgument("setSum(0, 1000001)", () -> made.setSum(0, 1000001));
        check.due("sum(0)", made.sum(0), 1000000);
        check.due("setSum(0, -1000000)", made.setSum(0, -1000000), 1000000);
        check.noArgument("setSum(0, -1000001)", () -> made.setSum(0, -1000001));
        check.due("sum(0)", made.sum(0), -1000000);
        check.due("setSum(0, 0)", made.setSum(0, 0), -1000000);
        check.due("sum(0)", made.sum(0), 0);
    }

    private static void squares() {
        Formationist made = Formations.heap(2);
        check.due("want(0, 1, 1)", made.want(0, 1, 1), -1);
        check.due("error() of 1", made.error(), 1);
        check.noArgument("want(0, 1, 0)", () -> made.want(0, 1, 0));
        check.due("error() of 1 still", made.error(), 1);
        check.due("want(0, 1, 8000000)", made.want(0, 1, 8000000), 1);
        check.due("error() of 8000000", made.error(), 8000000);
        check.noArgument("want(0, 1, 8000001)", () -> made.want(0, 1, 8000001));
        check.due("error() of 8000000 still", made.error(), 8000000);
    }

    private static void noneForASquare() {
        Formationist made = Formations.heap(2);
        check.due("want(0, 1, NONE) of none", made.want(0, 1, Formationist.NONE), -1);
        check.due("error() of none", made.error(), 0);
        check.due("want(1, 0, 7)", made.want(1, 0, 7), -1);
        check.noArgument("want(0, 1, -2)", () -> made.want(0, 1, -2));
        check.due("error() of 7", made.error(), 7);
        check.due("want(1, 0, NONE)", made.want(1, 0, Formationist.NONE), 7);
        check.due("error() once it is taken back", made.error(), 0);
        check.due("settle(1) once it is taken back", made.settle(1), 0);
        check.due("want(0, 1, 9)", made.want(0, 1, 9), -1);
    }

    private static void roundsOfAgreement() {
        Formationist made = Formations.line(3);
        made.setEstimate(0, 900);
        check.due("agree(1)", made.agree(1), 600);
        check.noArgument("agree(0)", () -> made.agree(0));
        check.due("estimate(0) after agree(0)", made.estimate(0), 600);
        Formationist far = Formations.line(8);
        Formationist stepped = Formations.line(8);
        far.setEstimate(0, 1000000);
        stepped.setEstimate(0, 1000000);
        int span = 0;
        for (int round = 0; round < 50; round++) {
            span = stepped.agree(1);
        }
        check.due("agree(50)", far.agree(50), span);
        check.noArgument("agree(51)", () -> far.agree(51));
        check.due("estimate(7) after agree(51)", far.estimate(7), stepped.estimate(7));
        check.due("one round more leaves the span", stepped.agree(1) == span, false);
    }

    private static void roundsOfSpreading() {
        Formationist made = Formations.heap(2);
        made.setSum(0, 8);
        check.due("spread(1)", made.spread(1), 2);
        check.noArgument("spread(0)", () -> made.spread(0));
        check.due("sum(0) after spread(0)", made.sum(0), 4);
        check.due("spread(50)", made.spread(50), 100);
        check.noArgument("spread(51)", () -> made.spread(51));
        check.due("spread(49)", made.spread(49), 98);
    }

    /** After 9 steps both go to and fro by 50, so it shows whether rounds were odd or even. */
    private static void roundsOfSettling() {
        Formationist made = Formations.pair(0, 0, 150, 0);
        made.want(0, 1, 1000000);
        check.due("settle(1)", made.settle(1), 1000000 - 250 * 250);
        check.due("xOf(0) after settle(1)", made.xOf(0), -50);
        check.noArgument("settle(0)", () -> made.settle(0));
        check.due("xOf(0) after settle(0)", made.xOf(0), -50);
        made.settle(49);
        check.due("xOf(0) after settle(49)", made.xOf(0), -400);
        made.settle(50);
        check.due("xOf(0) after settle(50)", made.xOf(0), -400);
        check.noArgument("settle(51)", () -> made.settle(51));
        check.due("xOf(0) after settle(51)", made.xOf(0), -400);
        made.settle(1);
        check.due("xOf(0) after settle(1) once more", made.xOf(0), -450);
    }
}
