/** The edges that the document's Terms name for spreading. */
public final class SpreadingTermsTest {
    private static final Check check = new Check();

    public static void main(String[] args) {
        sumAndWeightAtFirst();
        halfOfTheSumIsRoundedTowardsNought();
        sumMayOutgrowWhatIsSet();
        halfOfTheWeightIsRoundedDown();
        weightOfOneHandsNothingAndCounts();
        sumsThatHandNothingCount();
        turnBeginsAboveNone();
        turnGoesUpAndBeginsAnew();
        turnGoesOnOverCallsAndRounds();
        turnGoesOnAboveOneNoMoreLinked();
        turnStaysWithoutLinks();
        turnOfALoneLink();
        turnIsOfEachMember();
        handedIsWhatTheyHadAhead();
        withoutLinksNothingIsHanded();
        countsEachMemberThatHasLinks();
        check.finish();
    }

    private static void dueSums(String call, Formationist made, int... sums) {
        for (int member = 0; member < sums.length; member++) {
            check.due(call + ": sum(" + member + ")", made.sum(member), sums[member]);
        }
    }

    /** Runs a round in which the giver alone has a sum; tells where half of it went. */
    private static int receiverOf(Formationist made, int giver) {
        for (int member = 0; member < made.members(); member++) {
            made.setSum(member, member == giver ? 2 : 0);
        }
        made.spread(1);
        int receiver = Formationist.NONE;
        for (int member = 0; member < made.members(); member++) {
            if (member != giver && made.sum(member) == 1) {
                receiver = member;
            }
        }
        check.due("the rest of " + giver, made.sum(giver), receiver < 0 ? 2 : 1);
        return receiver;
    }

    private static void dueReceivers(String call, Formationist made, int giver, int... members) {
        for (int due : members) {
            check.due(call + ": receiver", receiverOf(made, giver), due);
        }
    }

    private static void sumAndWeightAtFirst() {
        Formationist made = Formations.heap(7);
        made.spread(9);
        made.addMember(5, 5);
        check.due("weight of a new one", made.weight(7), 1024);
        check.due("setSum of a new one", made.setSum(7, 4), 0);
        check.due("weight after setSum", made.weight(7), 1024);
        check.due("weight of the first one", Formations.heap(1).weight(0), 1024);
    }

    private static void halfOfTheSumIsRoundedTowardsNought() {
        int[] sums = {0, 1, 2, 3, 4, 5, 999999, 1000000};
        int[] halves = {0, 0, 1, 1, 2, 2, 499999, 500000};
        for (int number = 0; number < sums.length; number++) {
            for (int sign : new int[] {1, -1}) {
                for (int giver = 0; giver < 2; giver++) {
                    Formationist made = Formations.heap(2);
                    made.setSum(giver, sign * sums[number]);
                    made.spread(1);
                    check.due("handed of " + sign * sums[number], made.sum(1 - giver),
                            sign * halves[number]);
                    check.due("kept of " + sign * sums[number], made.sum(giver),
                            sign * (sums[number] - halves[number]));
                }
            }
        }
    }

    private static void sumMayOutgrowWhatIsSet() {
        for (int sign : new int[] {1, -1}) {
            Formationist made = Formations.heap(8);
            for (int member = 0; member < 8; member++) {
                made.setSum(member, sign * 1000000);
            }
            made.spread(1);
            dueSums("all hand to one", made, sign * 4000000, sign * 1000000, sign * 500000);
            check.due("setSum answers it", made.setSum(0, 0), sign * 4000000);
        }
    }

    /** All but the middle hear the middle alone; it hands to 3 while 2 is down. */
    private static Formationist withWeightLeft(int weight) {
        Formationist made = Formations.figure(4, 0, 1, 0, 2, 0, 3);
        made.toggle(3);
        for (int halves = 0; halves < 12 && made.weight(2) > weight; halves++) {
            made.spread(1);
            made.toggle(2);
            made.toggle(3);
            made.spread(1);
            made.toggle(2);
            made.toggle(3);
        }
        check.due("weight left", made.weight(2), weight);
        return made;
    }

    private static void halfOfTheWeightIsRoundedDown() {
        int odd = 0;
        for (int weight = 512; weight >= 1; weight /= 2) {
            Formationist made = withWeightLeft(weight);
            // Without 1 it swaps halves with the middle alone.
            made.toggle(1);
            for (int round = 0; round < 9; round++) {
                int middle = made.weight(0);
                int end = made.weight(2);
                odd += end % 2 + middle % 2;
                made.spread(1);
                check.due("the middle of " + middle + ", " + end, made.weight(0),
                        middle - middle / 2 + end / 2);
                check.due("the end of " + middle + ", " + end, made.weight(2),
                        end - end / 2 + middle / 2);
            }
        }
        check.due("odd weights were halved", odd > 9, true);
    }

    private static void weightOfOneHandsNothingAndCounts() {
        Formationist made = withWeightLeft(1);
        check.due("its sum", made.sum(2), 0);
        int before = made.weight(0) - made.weight(0) / 2 + made.weight(1) / 2;
        check.due("spread(1)", made.spread(1), 3);
        check.due("weight of the middle", made.weight(0), before);
        check.due("weight that is left", made.weight(2), 1);
    }

    private static void sumsThatHandNothingCount() {
        Formationist made = Formations.heap(3);
        check.due("spread(1) of noughts", made.spread(1), 3);
        made.setSum(0, 1);
        made.setSum(1, -1);
        check.due("spread(2) of 1, -1 and 0", made.spread(2), 6);
        dueSums("1, -1 and 0", made, 1, -1, 0);
    }

    private static void turnBeginsAboveNone() {
        for (int giver = 0; giver < 8; giver++) {
            check.due("first receiver of " + giver, receiverOf(Formations.heap(8), giver),
                    giver == 0 ? 1 : 0);
        }
        check.due("first receiver among high ones",
                receiverOf(Formations.figure(8, 5, 2, 5, 7, 5, 4), 5), 2);
    }

    private static void turnGoesUpAndBeginsAnew() {
        dueReceivers("the first", Formations.heap(4), 0, 1, 2, 3, 1, 2, 3, 1);
        dueReceivers("one inside", Formations.heap(4), 1, 0, 2, 3, 0, 2, 3, 0);
        dueReceivers("the last", Formations.heap(4), 3, 0, 1, 2, 0, 1, 2, 0);
        dueReceivers("some of eight", Formations.figure(8, 4, 1, 4, 3, 4, 6), 4, 1, 3, 6, 1, 3, 6);
        dueReceivers("all of eight", Formations.heap(8), 7, 0, 1, 2, 3, 4, 5, 6, 0);
    }

    private static void turnGoesOnOverCallsAndRounds() {
        for (int rounds = 1; rounds <= 50; rounds++) {
            Formationist made = Formations.heap(8);
            made.spread(rounds);
            dueReceivers("after spread(" + rounds + ")", made, 7, rounds % 7);
        }
        Formationist made = Formations.heap(4);
        made.spread(1);
        made.setSum(3, 9);
        made.agree(5);
        made.settle(5);
        made.move(3, 6, 6);
        made.toggle(3);
        made.toggle(3);
        dueReceivers("after other calls", made, 3, 1);
    }

    private static void turnGoesOnAboveOneNoMoreLinked() {
        Formationist made = Formations.heap(6);
        dueReceivers("two of them", made, 0, 1, 2, 3);
        made.toggle(3);
        dueReceivers("the last one down", made, 0, 4);
        made.toggle(3);
        made.block(0, 5);
        dueReceivers("the next one blocked", made, 0, 1);
        made.block(0, 5);
        made.block(0, 1);
        made.move(2, 500, 500);
        dueReceivers("the next ones gone", made, 0, 3, 4, 5, 3);
        made.move(2, 5, 5);
        dueReceivers("one below is back", made, 0, 4, 5, 2);
    }

    private static void turnStaysWithoutLinks() {
        Formationist made = Formations.heap(4);
        dueReceivers("two of them", made, 1, 0, 2);
        made.setRange(0);
        made.move(1, 6, 6);
        dueReceivers("out of range", made, 1, -1, -1);
        made.toggle(1);
        made.spread(3);
        made.toggle(1);
        made.setRange(100);
        dueReceivers("in range again", made, 1, 3);
    }

    private static void turnOfALoneLink() {
        dueReceivers("up alone", Formations.heap(2), 0, 1, 1, 1);
        dueReceivers("down alone", Formations.heap(2), 1, 0, 0, 0);
        dueReceivers("the farthest", Formations.figure(8, 0, 7), 0, 7, 7, 7);
    }

    private static void turnIsOfEachMember() {
        Formationist made = Formations.heap(4);
        made.toggle(3);
        dueReceivers("three of them", made, 0, 1, 2, 1);
        made.toggle(3);
        // 3 has handed nothing yet; 0 handed to 1 last.
        dueReceivers("the one that was down", made, 3, 0);
        dueReceivers("the one that was up", made, 0, 3);
    }

    private static void handedIsWhatTheyHadAhead() {
        Formationist up = Formations.heap(2);
        up.setSum(0, 8);
        up.spread(1);
        dueSums("the lower hands first", up, 4, 4);
        Formationist down = Formations.heap(2);
        down.setSum(1, 8);
        down.spread(1);
        dueSums("the higher hands first", down, 4, 4);
        Formationist both = Formations.heap(2);
        both.setSum(0, 8);
        both.setSum(1, 16);
        both.spread(1);
        dueSums("both hand", both, 12, 12);
        check.due("both weights", both.weight(0), 1024);
        Formationist way = Formations.line(3);
        way.setSum(0, 64);
        check.due("spread(1) on a way", way.spread(1), 3);
        dueSums("on a way", way, 32, 32, 0);
        check.due("the middle's weight", way.weight(1), 1536);
        check.due("the end's weight", way.weight(2), 512);
    }

    private static void withoutLinksNothingIsHanded() {
        Formationist made = Formations.heap(3);
        made.setSum(0, 1000000);
        made.setSum(1, 7);
        made.toggle(1);
        made.block(0, 2);
        check.due("spread(50) without links", made.spread(50), 0);
        dueSums("without links", made, 1000000, 7, 0);
        check.due("weight without links", made.weight(0), 1024);
        check.due("spread(50) of one", Formations.heap(1).spread(50), 0);
        check.due("spread(50) without members", new Formationist().spread(50), 0);
    }

    private static void countsEachMemberThatHasLinks() {
        for (int members = 2; members <= 8; members++) {
            Formationist made = Formations.heap(members);
            check.due("spread(1) of " + members, made.spread(1), members);
            check.due("spread(50) of " + members, made.spread(50), 50 * members);
            made.toggle(0);
            check.due("spread(1) with one down", made.spread(1),
                    members == 2 ? 0 : members - 1);
        }
    }
}
