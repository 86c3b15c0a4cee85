/** The edges that the document's Terms name for agreement. */
public final class AgreementTermsTest {
    private static final Check check = new Check();

    public static void main(String[] args) {
        estimateIsNoughtAtFirst();
        flowIsRoundedTowardsNought();
        flowOfThoseFarthestApart();
        greaterOneOfBothDegrees();
        degreesCountLinksAlone();
        flowsAreToldAhead();
        roundsFollowOneAnother();
        withoutLinksNothingFlows();
        answersTheSpanOfAll();
        answersNoughtWithoutMembers();
        check.finish();
    }

    private static void dueEstimates(String call, Formationist made, int... estimates) {
        for (int member = 0; member < estimates.length; member++) {
            check.due(call + ": estimate(" + member + ")", made.estimate(member),
                    estimates[member]);
        }
    }

    private static void estimateIsNoughtAtFirst() {
        Formationist made = Formations.heap(7);
        for (int member = 0; member < 7; member++) {
            check.due("setEstimate of a new one", made.setEstimate(member, 9), 0);
        }
        made.addMember(500, 500);
        check.due("estimate of one added later", made.estimate(7), 0);
    }

    /** In a heap each flow is a difference divided by the number of members. */
    private static void flowIsRoundedTowardsNought() {
        for (int members = 2; members <= 8; members++) {
            for (int sign : new int[] {1, -1}) {
                dueFlows(members, sign * (members - 1), 0);
                dueFlows(members, sign * members, sign);
                dueFlows(members, sign * (2 * members - 1), sign);
                dueFlows(members, sign * 2 * members, sign * 2);
            }
        }
    }

    private static void dueFlows(int members, int estimate, int flow) {
        for (int giver : new int[] {0, members / 2, members - 1}) {
            Formationist made = Formations.heap(members);
            made.setEstimate(giver, estimate);
            int kept = estimate - flow * (members - 1);
            String call = "agree(1) with " + estimate + " of " + giver + " of " + members;
            check.due(call, made.agree(1), Math.abs(kept - flow));
            for (int member = 0; member < members; member++) {
                check.due(call + ": estimate(" + member + ")", made.estimate(member),
                        member == giver ? kept : flow);
            }
        }
    }

    private static void flowOfThoseFarthestApart() {
        for (int high = 0; high < 2; high++) {
            Formationist made = Formations.heap(2);
            made.setEstimate(high, 1000000);
            made.setEstimate(1 - high, -1000000);
            check.due("agree(1) of two farthest apart", made.agree(1), 0);
            dueEstimates("two farthest apart", made, 0, 0);
            Formationist eight = Formations.heap(8);
            for (int member = 0; member < 8; member++) {
                eight.setEstimate(member, (member & 1) == high ? 1000000 : -1000000);
            }
            check.due("agree(1) of two fours farthest apart", eight.agree(1), 0);
            dueEstimates("two fours farthest apart", eight, 0, 0, 0, 0, 0, 0, 0, 0);
        }
    }

    /** A star round one member: its degree is the greater one for each link. */
    private static void greaterOneOfBothDegrees() {
        for (int middle = 0; middle < 4; middle++) {
            Formationist made = Formations.heap(4);
            for (int low = 0; low < 4; low++) {
                for (int high = low + 1; high < 4; high++) {
                    if (low != middle && high != middle) {
                        made.block(low, high);
                    }
                }
            }
            for (int member = 0; member < 4; member++) {
                made.setEstimate(member, member == middle ? 0 : 12);
            }
            check.due("agree(1) of a star round " + middle, made.agree(1), 0);
            for (int member = 0; member < 4; member++) {
                check.due("estimate in a star round " + middle, made.estimate(member), 9);
            }
        }
    }

    private static void degreesCountLinksAlone() {
        // With a link less the divisor is 2, not 3.
        Formationist blocked = Formations.heap(3);
        blocked.block(0, 2);
        blocked.block(1, 2);
        blocked.setEstimate(0, 6);
        blocked.agree(1);
        dueEstimates("one blocked", blocked, 3, 3, 0);
        Formationist down = Formations.heap(3);
        down.toggle(2);
        down.setEstimate(0, 6);
        down.agree(1);
        dueEstimates("one down", down, 3, 3, 0);
        Formationist far = Formations.heap(3);
        far.move(2, 106, 5);
        far.setEstimate(0, 6);
        far.agree(1);
        dueEstimates("one out of range", far, 3, 3, 0);
        far.move(2, 105, 5);
        far.agree(1);
        dueEstimates("one just in range", far, 2, 2, 2);
    }

    private static void flowsAreToldAhead() {
        // A wave that runs on within one round would give the third member something at once.
        Formationist up = Formations.line(3);
        up.setEstimate(0, 900);
        up.agree(1);
        dueEstimates("from the low end", up, 600, 300, 0);
        Formationist down = Formations.line(3);
        down.setEstimate(2, 900);
        down.agree(1);
        dueEstimates("from the high end", down, 0, 300, 600);
        Formationist middle = Formations.line(3);
        middle.setEstimate(1, 900);
        middle.agree(1);
        dueEstimates("from the middle", middle, 300, 300, 300);
    }

    private static void roundsFollowOneAnother() {
        Formationist made = Formations.line(3);
        made.setEstimate(0, 900);
        check.due("agree(2)", made.agree(2), 400);
        dueEstimates("two rounds", made, 500, 300, 100);
        check.due("agree(3)", made.agree(3), 120);
        // Flows of 66, 44 and 30 from each to the next one.
        dueEstimates("five rounds", made, 360, 300, 240);
    }

    private static void withoutLinksNothingFlows() {
        Formationist made = Formations.heap(3);
        made.setEstimate(0, -1000000);
        made.setEstimate(1, 5);
        made.setEstimate(2, 1000000);
        made.toggle(1);
        made.block(0, 2);
        check.due("agree(50) without links", made.agree(50), 2000000);
        dueEstimates("without links", made, -1000000, 5, 1000000);
    }

    private static void answersTheSpanOfAll() {
        for (int apart = 0; apart < 3; apart++) {
            Formationist made = Formations.heap(3);
            made.toggle(apart);
            made.setEstimate(apart, 1000000);
            check.due("agree(1), the greatest one down", made.agree(1), 1000000);
            made.setEstimate(apart, -1000000);
            check.due("agree(1), the least one down", made.agree(1), 1000000);
        }
        Formationist below = Formations.heap(2);
        below.setEstimate(0, -5);
        below.setEstimate(1, -6);
        check.due("agree(1) below nought", below.agree(1), 1);
        Formationist one = Formations.heap(1);
        one.setEstimate(0, 1000000);
        check.due("agree(1) of one", one.agree(1), 0);
        check.due("its estimate", one.estimate(0), 1000000);
    }

    private static void answersNoughtWithoutMembers() {
        check.due("agree(1) without members", new Formationist().agree(1), 0);
        check.due("agree(50) without members", new Formationist().agree(50), 0);
    }
}
