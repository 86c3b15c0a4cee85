/** Promises 20 to 23: sums, weights and rounds of spreading. */
public final class SpreadingTest {
    private static final Check check = new Check();

    public static void main(String[] args) {
        checkSetSum();
        checkWeight();
        checkTurnOfReceivers();
        checkTurnGoesOnOverCalls();
        checkTurnAfterLinksChange();
        checkHalves();
        checkSpreadApart();
        checkNoughtIsHandedToo();
        checkManyRounds();
        checkSpreadThrows();
        check.finish();
    }

    private static Formationist withSums(int... sums) {
        Formationist made = new Formationist();
        for (int sum : sums) {
            made.setSum(made.addMember(0, 0), sum);
        }
        return made;
    }

    private static void dueSums(String call, Formationist made, int... sums) {
        for (int member = 0; member < sums.length; member++) {
            check.due(call + ": sum(" + member + ")", made.sum(member), sums[member]);
        }
    }

    private static void dueWeights(String call, Formationist made, int... weights) {
        for (int member = 0; member < weights.length; member++) {
            check.due(call + ": weight(" + member + ")", made.weight(member), weights[member]);
        }
    }

    private static void checkSetSum() {
        Formationist made = withSums(0, 0);
        check.due("setSum(1, 1000000)", made.setSum(1, 1000000), 0);
        check.due("setSum(1, -1000000)", made.setSum(1, -1000000), 1000000);
        dueSums("setSum", made, 0, -1000000);
        check.noArgument("setSum(1, 1000001)", () -> made.setSum(1, 1000001));
        check.noArgument("setSum(1, -1000001)", () -> made.setSum(1, -1000001));
        check.noIndex("setSum(2, 0)", () -> made.setSum(2, 0));
        check.noIndex("setSum(-1, 1000001)", () -> made.setSum(-1, 1000001));
        check.noIndex("sum(2)", () -> made.sum(2));
        check.noIndex("sum(-1)", () -> made.sum(-1));
        dueSums("after throws", made, 0, -1000000);
    }

    private static void checkWeight() {
        Formationist made = withSums(0, 0);
        dueWeights("new", made, 1024, 1024);
        made.setSum(0, 500);
        dueWeights("setSum leaves it", made, 1024, 1024);
        check.noIndex("weight(2)", () -> made.weight(2));
        check.noIndex("weight(-1)", () -> made.weight(-1));
    }

    private static void checkTurnOfReceivers() {
        // All begin with the lowest that they hear: 0 with 1, the others with 0.
        Formationist made = withSums(800, 0, 0);
        check.due("spread(1) of three", made.spread(1), 3);
        dueSums("once", made, 400, 400, 0);
        dueWeights("once", made, 1536, 1024, 512);
        // 0 goes on to 2, 1 to 2, 2 to 1.
        check.due("spread(1) of three again", made.spread(1), 3);
        dueSums("twice", made, 200, 200, 400);
        dueWeights("twice", made, 768, 768, 1536);
        // None is above 2 for 0 and 1, and none above 1 for 2, so all begin anew.
        check.due("spread(1) of three once more", made.spread(1), 3);
        dueSums("thrice", made, 100 + 100 + 200, 100 + 100, 200);
        dueWeights("thrice", made, 384 + 384 + 768, 384 + 384, 768);
    }

    private static void checkTurnGoesOnOverCalls() {
        Formationist made = withSums(64, 0, 0, 0);
        made.block(1, 2);
        made.block(1, 3);
        made.block(2, 3);
        check.due("spread(1) on a star", made.spread(1), 4);
        dueSums("star, first", made, 32, 32, 0, 0);
        check.due("spread(2) on a star", made.spread(2), 8);
        // Second: 0 gives 16 to 2, 1 gives 16; third: 0 gives 16 to 3, 1 and 2 give 8 each.
        dueSums("star, third", made, 16 + 8 + 8, 8, 8, 16);
        check.due("spread(1) on a star again", made.spread(1), 4);
        dueSums("star, fourth", made, 16 + 4 + 4 + 8, 4 + 16, 4, 8);
    }

    private static void checkTurnAfterLinksChange() {
        Formationist made = withSums(0, 0, 64, 0);
        made.block(0, 1);
        made.block(0, 3);
        made.block(1, 3);
        made.toggle(3);
        made.spread(2);
        // 2 handed to 0, then to 1; 3 is next once it is up.
        dueSums("up to 1", made, 16, 16, 16 + 16);
        made.toggle(3);
        made.setSum(2, 64);
        made.spread(1);
        dueSums("then to 3", made, 8, 8, 32 + 8 + 8, 32);
        made.toggle(0);
        made.setSum(2, 64);
        made.spread(1);
        dueSums("then to the lowest that is up", made, 8, 4 + 32, 32 + 4 + 16, 16);
        made.toggle(0);
        made.setSum(2, 64);
        made.spread(1);
        dueSums("then above the last one", made, 4, 18, 32 + 4 + 18 + 8, 8 + 32);
    }

    private static void checkHalves() {
        Formationist made = withSums(-7, 0);
        made.spread(1);
        dueSums("-7 hands -3", made, -4, -3);
        Formationist odd = withSums(7, 0);
        odd.spread(1);
        dueSums("7 hands 3", odd, 4, 3);
        Formationist one = withSums(1, -1);
        one.spread(5);
        dueSums("1 and -1 hand nothing of their sums", one, 1, -1);
        Formationist weights = withSums(0, 0, 0);
        weights.block(1, 2);
        weights.toggle(2);
        weights.spread(1);
        dueWeights("two swap halves", weights, 1024, 1024, 1024);
        // 0 goes on to 2; 1 and 2 hear 0 alone.
        weights.toggle(2);
        weights.spread(1);
        dueWeights("to the third", weights, 512 + 512 + 512, 512, 512 + 512);
        weights.spread(8);
        int total = weights.weight(0) + weights.weight(1) + weights.weight(2);
        check.due("weights keep their total", total, 3072);
    }

    private static void checkSpreadApart() {
        Formationist made = withSums(10, 20, 30);
        made.move(2, 500, 0);
        check.due("spread(1), one apart", made.spread(1), 2);
        dueSums("one apart", made, 15, 15, 30);
        dueWeights("one apart", made, 1024, 1024, 1024);
        made.toggle(1);
        check.due("spread(50), none linked", made.spread(50), 0);
        dueSums("none linked", made, 15, 15, 30);
        check.due("spread(1) of none", new Formationist().spread(1), 0);
    }

    private static void checkNoughtIsHandedToo() {
        Formationist drained = drained();
        check.due("drained: weight(2)", drained.weight(2), 1);
        check.due("drained: spread(1)", drained.spread(1), 3);
        check.due("drained: weight(2) after", drained.weight(2), 1);
    }

    /** A star round 0 in which 2 is down whenever the turn would be its, so it only hands over. */
    private static Formationist drained() {
        Formationist made = withSums(0, 0, 0, 0);
        made.block(1, 2);
        made.block(1, 3);
        made.block(2, 3);
        for (int round = 0; round < 11; round++) {
            // 0 hands to 1 while all three hear it, then to 3 while 2 is down.
            made.toggle(3);
            made.spread(1);
            made.toggle(3);
            made.toggle(2);
            made.spread(1);
            made.toggle(2);
        }
        made.toggle(3);
        return made;
    }

    private static void checkManyRounds() {
        Formationist made = withSums(1000000, -999999, 3, 0, 17, 0, 0, -1);
        Formationist single = withSums(1000000, -999999, 3, 0, 17, 0, 0, -1);
        int handed = 0;
        for (int round = 0; round < 50; round++) {
            handed += single.spread(1);
        }
        check.due("50 times spread(1)", handed, 400);
        check.due("spread(50)", made.spread(50), 400);
        int total = 0;
        int weight = 0;
        for (int member = 0; member < 8; member++) {
            total += made.sum(member);
            weight += made.weight(member);
            check.due("sum after spread(50)", made.sum(member), single.sum(member));
            check.due("weight after spread(50)", made.weight(member), single.weight(member));
        }
        check.due("spread keeps the total", total, 20);
        check.due("spread keeps the weight", weight, 8192);
    }

    private static void checkSpreadThrows() {
        Formationist made = withSums(10, 20);
        check.noArgument("spread(0)", () -> made.spread(0));
        check.noArgument("spread(51)", () -> made.spread(51));
        check.noArgument("spread(-1)", () -> made.spread(-1));
        dueSums("after throws", made, 10, 20);
        dueWeights("after throws", made, 1024, 1024);
    }
}
