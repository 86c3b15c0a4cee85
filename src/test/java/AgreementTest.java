/** Promises 17 to 19: estimates and rounds of agreement. */
public final class AgreementTest {
    private static final Check check = new Check();

    public static void main(String[] args) {
        checkSetEstimate();
        checkAgreeOnce();
        checkAgreeRoundsTowardsNought();
        checkFlowsAreToldAhead();
        checkDegreesOfUnlikeEnds();
        checkAgreeWithDownAndApart();
        checkManyRounds();
        checkAgreeThrows();
        check.finish();
    }

    private static Formationist withEstimates(int... estimates) {
        Formationist made = new Formationist();
        for (int estimate : estimates) {
            made.setEstimate(made.addMember(0, 0), estimate);
        }
        return made;
    }

    private static void dueEstimates(String call, Formationist made, int... estimates) {
        for (int member = 0; member < estimates.length; member++) {
            check.due(call + ": estimate(" + member + ")", made.estimate(member),
                    estimates[member]);
        }
    }

    private static void checkSetEstimate() {
        Formationist made = withEstimates(0, 0);
        check.due("setEstimate(0, 1000000)", made.setEstimate(0, 1000000), 0);
        check.due("setEstimate(0, -1000000)", made.setEstimate(0, -1000000), 1000000);
        dueEstimates("setEstimate", made, -1000000, 0);
        check.noArgument("setEstimate(0, 1000001)", () -> made.setEstimate(0, 1000001));
        check.noArgument("setEstimate(0, -1000001)", () -> made.setEstimate(0, -1000001));
        check.noIndex("setEstimate(2, 0)", () -> made.setEstimate(2, 0));
        check.noIndex("setEstimate(-1, 1000001)", () -> made.setEstimate(-1, 1000001));
        check.noIndex("estimate(2)", () -> made.estimate(2));
        check.noIndex("estimate(-1)", () -> made.estimate(-1));
        dueEstimates("after throws", made, -1000000, 0);
        made.toggle(0);
        check.due("setEstimate of one that is down", made.setEstimate(0, 4), -1000000);
    }

    private static void checkAgreeOnce() {
        Formationist made = withEstimates(0, 300, 0);
        check.due("agree(1) of a heap of 3", made.agree(1), 0);
        dueEstimates("agree(1)", made, 100, 100, 100);
        Formationist two = withEstimates(1000000, -1000000);
        check.due("agree(1) of the farthest", two.agree(1), 0);
        dueEstimates("agree(1) of the farthest", two, 0, 0);
        check.due("agree(1) of none", new Formationist().agree(1), 0);
        check.due("agree(50) of one", withEstimates(-9).agree(50), 0);
    }

    private static void checkAgreeRoundsTowardsNought() {
        Formationist made = withEstimates(0, 3);
        check.due("agree(1) of 0, 3", made.agree(1), 1);
        dueEstimates("0, 3", made, 1, 2);
        Formationist turned = withEstimates(3, 0);
        check.due("agree(1) of 3, 0", turned.agree(1), 1);
        dueEstimates("3, 0", turned, 2, 1);
        Formationist close = withEstimates(-1, 0);
        check.due("agree(50) of -1, 0", close.agree(50), 1);
        dueEstimates("-1, 0", close, -1, 0);
    }

    private static void checkFlowsAreToldAhead() {
        Formationist made = withEstimates(0, 0, 0);
        made.move(0, -100, 0);
        made.move(2, 100, 0);
        made.setEstimate(0, 900);
        check.due("agree(1) on a line", made.agree(1), 600);
        dueEstimates("line, once", made, 600, 300, 0);
        check.due("agree(1) on a line again", made.agree(1), 400);
        dueEstimates("line, twice", made, 500, 300, 100);
        Formationist both = withEstimates(0, 0, 0);
        both.move(0, -100, 0);
        both.move(2, 100, 0);
        both.setEstimate(0, 900);
        check.due("agree(2) on a line", both.agree(2), 400);
        dueEstimates("line, two rounds", both, 500, 300, 100);
    }

    private static void checkDegreesOfUnlikeEnds() {
        // The first member hears three, the others it alone, so each flow is a fourth.
        Formationist star = withEstimates(0, 400, 80, -44);
        star.block(1, 2);
        star.block(1, 3);
        star.block(2, 3);
        check.due("agree(1) on a star", star.agree(1), 300 + 33);
        dueEstimates("star", star, 100 + 20 - 11, 300, 60, -33);
        Formationist turned = withEstimates(400, 80, -44, 0);
        turned.block(0, 1);
        turned.block(0, 2);
        turned.block(1, 2);
        check.due("agree(1) on a turned star", turned.agree(1), 300 + 33);
        dueEstimates("turned star", turned, 300, 60, -33, 109);
    }

    private static void checkAgreeWithDownAndApart() {
        Formationist made = withEstimates(0, 10, 1000, -500);
        made.toggle(2);
        made.move(3, 900, 900);
        check.due("agree counts those down and apart", made.agree(3), 1500);
        dueEstimates("down and apart", made, 5, 5, 1000, -500);
        made.toggle(2);
        check.due("agree once it is up", made.agree(1), 338 + 500);
        dueEstimates("up", made, 336, 336, 338, -500);
    }

    private static void checkManyRounds() {
        Formationist made = withEstimates(1000000, 0, 0, 0, 0, 0, 0, 0);
        for (int member = 0; member < 8; member++) {
            made.move(member, 100 * member, 0);
        }
        Formationist single = withEstimates(1000000, 0, 0, 0, 0, 0, 0, 0);
        for (int member = 0; member < 8; member++) {
            single.move(member, 100 * member, 0);
        }
        int span = 0;
        for (int round = 0; round < 50; round++) {
            span = single.agree(1);
        }
        check.due("agree(50) is 50 times agree(1)", made.agree(50), span);
        int total = 0;
        for (int member = 0; member < 8; member++) {
            total += made.estimate(member);
            check.due("estimate after agree(50)", made.estimate(member),
                    single.estimate(member));
        }
        check.due("agree keeps the total", total, 1000000);
    }

    private static void checkAgreeThrows() {
        Formationist made = withEstimates(0, 300);
        check.noArgument("agree(0)", () -> made.agree(0));
        check.noArgument("agree(51)", () -> made.agree(51));
        check.noArgument("agree(-1)", () -> made.agree(-1));
        check.noArgument("agree(0) of none", () -> new Formationist().agree(0));
        dueEstimates("after throws", made, 0, 300);
    }
}
