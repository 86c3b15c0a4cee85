/** The edges that the document's Terms name for members, links, groups, leaders and trees. */
public final class LinkTermsTest {
    private static final Check check = new Check();

    public static void main(String[] args) {
        atMostEightMembers();
        numberedFromNought();
        upAtFirst();
        priorityAtFirst();
        rangeAtFirst();
        unlikeMembersAlone();
        bothAreUp();
        notBlocked();
        blockIsOfAPair();
        squareAtMostThatOfTheRange();
        farthestPlaces();
        degreesFromNoneToSeven();
        linksFromNoneToAll();
        groupsFromNoneToEight();
        groupGoesOverLinks();
        oneThatIsDownIsInNoGroup();
        leaderHasTheGreatestPriority();
        leaderOfSeveralHasTheLowestNumber();
        leaderIsOfTheGroupAlone();
        leaderOfOneThatIsDown();
        treesOfNone();
        treesOfOneAlone();
        treesOfSeveralGroups();
        treesOfThoseUpAlone();
        treesFromOneToTheMost();
        check.finish();
    }

    private static void atMostEightMembers() {
        Formationist made = Formations.heap(7);
        check.due("the eighth addMember", made.addMember(1, 2), 7);
        check.due("members() of eight", made.members(), 8);
        check.dueThrow("the ninth addMember", IllegalStateException.class,
                () -> made.addMember(1, 2));
        for (int member = 0; member < 8; member++) {
            made.toggle(member);
        }
        check.dueThrow("the ninth addMember, all being down", IllegalStateException.class,
                () -> made.addMember(1, 2));
        check.due("members() that are down", made.members(), 8);
    }

    private static void numberedFromNought() {
        Formationist made = new Formationist();
        for (int number = 0; number < 8; number++) {
            check.due("members() before", made.members(), number);
            check.due("addMember", made.addMember(-number, number), number);
            check.due("xOf", made.xOf(number), -number);
            check.due("yOf", made.yOf(number), number);
        }
    }

    private static void upAtFirst() {
        Formationist made = new Formationist();
        for (int member = 0; member < 8; member++) {
            made.addMember(0, 0);
            check.due("groups() with one more", made.groups(), 1);
            check.due("leader of a new one", made.leader(member), 0);
            check.due("degree of a new one", made.degree(member), member);
        }
        check.due("toggle of a new one", made.toggle(7), false);
    }

    private static void priorityAtFirst() {
        Formationist made = Formations.heap(2);
        made.setPriority(0, 99);
        made.setPriority(1, 99);
        check.due("the third addMember", made.addMember(5, 5), 2);
        for (int member = 0; member < 2; member++) {
            check.due("setPriority of an old one", made.setPriority(member, 1), 99);
        }
        check.due("setPriority of a new one", made.setPriority(2, 1), 0);
    }

    private static void rangeAtFirst() {
        check.due("setRange of none", new Formationist().setRange(7), 100);
        Formationist made = Formations.heap(1);
        made.addMember(105, 5);
        check.due("100 apart", made.areLinked(0, 1), true);
        made.move(1, 105, 6);
        check.due("one square more apart", made.areLinked(0, 1), false);
        check.due("setRange", made.setRange(7), 100);
    }

    private static void unlikeMembersAlone() {
        Formationist made = Formations.heap(1);
        for (int range : new int[] {0, 100, 3000}) {
            made.setRange(range);
            check.due("one: areLinked(0, 0)", made.areLinked(0, 0), false);
            check.due("one: links()", made.links(), 0);
            check.due("one: degree(0)", made.degree(0), 0);
        }
        Formationist full = Formations.heap(8);
        for (int member = 0; member < 8; member++) {
            check.due("eight: a member and itself", full.areLinked(member, member), false);
        }
        full.toggle(7);
        check.due("one that is down and itself", full.areLinked(7, 7), false);
    }

    private static void bothAreUp() {
        Formationist made = Formations.heap(2);
        check.due("both up", made.areLinked(0, 1), true);
        made.toggle(0);
        check.due("the first down", made.areLinked(0, 1), false);
        check.due("the first down, turned", made.areLinked(1, 0), false);
        made.toggle(1);
        check.due("both down", made.areLinked(0, 1), false);
        made.toggle(0);
        check.due("the second down", made.areLinked(0, 1), false);
        check.due("the second down, turned", made.areLinked(1, 0), false);
        made.toggle(1);
        check.due("both up again", made.areLinked(0, 1), true);
    }

    private static void notBlocked() {
        Formationist made = Formations.heap(3);
        for (int low = 0; low < 3; low++) {
            for (int high = low + 1; high < 3; high++) {
                check.due("block", made.block(low, high), true);
                check.due("blocked", made.areLinked(low, high), false);
                check.due("blocked, turned", made.areLinked(high, low), false);
                check.due("links() of three, one blocked", made.links(), 2);
                check.due("block, turned", made.block(high, low), false);
                check.due("taken back", made.areLinked(low, high), true);
            }
        }
    }

    /** Each of the 28 pairs has a block of its own, told whichever way it is named. */
    private static void blockIsOfAPair() {
        Formationist made = Formations.heap(8);
        int links = 28;
        for (int high = 0; high < 8; high++) {
            for (int low = 0; low < high; low++) {
                check.due("block of a pair", made.block(high, low), true);
                links--;
                check.due("links() with more pairs blocked", made.links(), links);
            }
        }
        for (int low = 0; low < 8; low++) {
            for (int high = low + 1; high < 8; high++) {
                check.due("block taken back", made.block(low, high), false);
            }
        }
        check.due("links() with no pair blocked", made.links(), 28);
    }

    private static void squareAtMostThatOfTheRange() {
        dueLinked(0, 0, 0, true);
        dueLinked(1, 0, 0, false);
        dueLinked(1, 0, 1, true);
        dueLinked(1, 1, 1, false);
        dueLinked(3, 4, 5, true);
        dueLinked(5, 1, 5, false);
        dueLinked(60, 80, 100, true);
        dueLinked(100, 1, 100, false);
        dueLinked(101, 0, 100, false);
        dueLinked(99, 14, 100, true);
        dueLinked(99, 15, 100, false);
        dueLinked(2000, 0, 2000, true);
        dueLinked(2000, 1, 2000, false);
        dueLinked(1200, 1600, 2000, true);
        dueLinked(1200, 1600, 1999, false);
    }

    private static void farthestPlaces() {
        dueLinked(2000, 2000, 2828, false);
        dueLinked(2000, 2000, 2829, true);
        dueLinked(2000, 2000, 3000, true);
    }

    /** Apart by dx and dy on either side, along either way. */
    private static void dueLinked(int dx, int dy, int range, boolean linked) {
        Formationist made = Formations.pair(0, 0, 0, 0);
        made.setRange(range);
        String call = dx + ", " + dy + " apart, range " + range;
        made.move(0, -1000, -1000);
        made.move(1, dx - 1000, dy - 1000);
        check.due(call, made.areLinked(0, 1), linked);
        made.move(1, dy - 1000, dx - 1000);
        check.due(call + ", x for y", made.areLinked(0, 1), linked);
        made.move(0, 1000, 1000);
        made.move(1, 1000 - dx, 1000 - dy);
        check.due(call + ", the other way", made.areLinked(0, 1), linked);
        made.move(0, 1000, -1000);
        made.move(1, 1000 - dx, dy - 1000);
        check.due(call + ", aslant", made.areLinked(0, 1), linked);
        check.due(call + ": links()", made.links(), linked ? 1 : 0);
    }

    private static void degreesFromNoneToSeven() {
        for (int members = 1; members <= 8; members++) {
            Formationist made = Formations.heap(members);
            for (int member = 0; member < members; member++) {
                check.due("degree in a heap of " + members, made.degree(member), members - 1);
            }
            made.toggle(0);
            check.due("degree of one that is down", made.degree(0), 0);
            if (members > 1) {
                check.due("degree beside it", made.degree(members - 1), members - 2);
            }
        }
    }

    private static void linksFromNoneToAll() {
        check.due("links() of none", new Formationist().links(), 0);
        for (int members = 1; members <= 8; members++) {
            check.due("links() in a heap of " + members, Formations.heap(members).links(),
                    members * (members - 1) / 2);
            check.due("links() in a line of " + members, Formations.line(members).links(),
                    members - 1);
        }
    }

    private static void groupsFromNoneToEight() {
        check.due("groups() of none", new Formationist().groups(), 0);
        Formationist made = Formations.line(8);
        made.setRange(99);
        for (int up = 8; up > 0; up--) {
            check.due("groups(), each alone", made.groups(), up);
            made.toggle(up - 1);
        }
        check.due("groups(), all down", made.groups(), 0);
    }

    /** The longest way has seven links, here from the lowest number over all others. */
    private static void groupGoesOverLinks() {
        int[][] orders = {{0, 1, 2, 3, 4, 5, 6, 7}, {0, 7, 6, 5, 4, 3, 2, 1},
            {0, 7, 1, 6, 2, 5, 3, 4}, {4, 2, 6, 0, 7, 1, 5, 3}};
        for (int[] order : orders) {
            Formationist made = Formations.heap(8);
            for (int spot = 0; spot < 8; spot++) {
                made.move(order[spot], 100 * spot - 350, 0);
            }
            check.due("groups() of a way", made.groups(), 1);
            made.setPriority(order[7], 1);
            check.due("leader at its other end", made.leader(order[0]), order[7]);
            made.block(order[3], order[4]);
            check.due("groups() of a way cut in half", made.groups(), 2);
            check.due("leader past the cut", made.leader(order[4]), order[7]);
        }
    }

    private static void oneThatIsDownIsInNoGroup() {
        Formationist made = Formations.line(3);
        made.toggle(1);
        check.due("groups() on both sides of it", made.groups(), 2);
        check.due("its leader", made.leader(1), -1);
        made.toggle(0);
        made.toggle(2);
        check.due("groups() with all down", made.groups(), 0);
        made.toggle(1);
        check.due("groups() with it up alone", made.groups(), 1);
        check.due("its leader then", made.leader(1), 1);
    }

    private static void leaderHasTheGreatestPriority() {
        for (int best = 0; best < 8; best++) {
            Formationist made = Formations.heap(8);
            for (int member = 0; member < 8; member++) {
                made.setPriority(member, member == best ? 99 : 98);
            }
            check.due("leader of the first", made.leader(0), best);
            check.due("leader of the last", made.leader(7), best);
            check.due("leader of itself", made.leader(best), best);
        }
        Formationist low = Formations.heap(2);
        check.due("leader with 0 and 0", low.leader(1), 0);
        low.setPriority(1, 1);
        check.due("leader with 0 and 1", low.leader(0), 1);
    }

    private static void leaderOfSeveralHasTheLowestNumber() {
        for (int lowest = 0; lowest < 8; lowest++) {
            Formationist made = Formations.heap(8);
            for (int member = lowest; member < 8; member++) {
                made.setPriority(member, 99);
            }
            for (int member = 0; member < 8; member++) {
                check.due("leader of several from " + lowest, made.leader(member), lowest);
            }
        }
    }

    private static void leaderIsOfTheGroupAlone() {
        Formationist made = Formations.line(4);
        made.setPriority(3, 99);
        made.setPriority(0, 50);
        check.due("leader in one group", made.leader(1), 3);
        made.block(1, 2);
        check.due("leader in the low group", made.leader(1), 0);
        check.due("leader in the high group", made.leader(2), 3);
        made.toggle(3);
        check.due("leader of one alone", made.leader(2), 2);
        made.block(1, 2);
        check.due("leader without the one that is down", made.leader(2), 0);
    }

    private static void leaderOfOneThatIsDown() {
        Formationist made = Formations.heap(8);
        for (int member = 0; member < 8; member++) {
            made.setPriority(member, 99);
            made.toggle(member);
            check.due("leader of one that is down", made.leader(member), Formationist.NONE);
            made.toggle(member);
            check.due("leader of one that came up", made.leader(member), 0);
        }
    }

    private static void treesOfNone() {
        check.due("trees() without members", new Formationist().trees(), 0);
        Formationist made = Formations.heap(3);
        for (int member = 0; member < 3; member++) {
            made.toggle(member);
        }
        check.due("trees() with none up", made.trees(), 0);
    }

    private static void treesOfOneAlone() {
        check.due("trees() of one", Formations.heap(1).trees(), 1);
        for (int left = 0; left < 8; left++) {
            Formationist made = Formations.heap(8);
            for (int member = 0; member < 8; member++) {
                if (member != left) {
                    made.toggle(member);
                }
            }
            check.due("trees() with one up", made.trees(), 1);
        }
    }

    private static void treesOfSeveralGroups() {
        Formationist two = Formations.heap(2);
        two.block(0, 1);
        check.due("trees() of two apart", two.trees(), 0);
        for (int alone = 0; alone < 8; alone++) {
            Formationist made = Formations.heap(8);
            made.move(alone, 900, 900);
            check.due("trees() with one apart", made.trees(), 0);
            made.toggle(alone);
            check.due("trees() with it down", made.trees(), 16807);
        }
        Formationist halves = Formations.heap(8);
        for (int member = 0; member < 8; member += 2) {
            halves.move(member, 900, 900);
        }
        check.due("trees() of two fours", halves.trees(), 0);
    }

    private static void treesOfThoseUpAlone() {
        Formationist made = Formations.line(8);
        check.due("trees() of a line", made.trees(), 1);
        made.toggle(0);
        made.toggle(7);
        check.due("trees() without its ends", made.trees(), 1);
        made.toggle(4);
        check.due("trees() without its middle", made.trees(), 0);
    }

    private static void treesFromOneToTheMost() {
        long[] most = {1, 1, 3, 16, 125, 1296, 16807, 262144};
        for (int members = 1; members <= 8; members++) {
            Formationist made = Formations.heap(members);
            check.due("trees() in a heap", made.trees(), most[members - 1]);
            if (members > 2) {
                // Each link is in 2 trees of as many as there are members.
                made.block(0, members - 1);
                check.due("trees() but for one link", made.trees(),
                        most[members - 1] / members * (members - 2));
            }
        }
    }
}
