/** Promises 11 to 16: links, degrees, groups, leaders and trees. */
public final class LinksTest {
    private static final Check check = new Check();

    public static void main(String[] args) {
        checkAreLinked();
        checkLinksAndDegree();
        checkGroups();
        checkLeader();
        checkTrees();
        checkTreesOfKnownFigures();
        check.finish();
    }

    private static void checkAreLinked() {
        Formationist made = Formations.line(3);
        check.due("areLinked(0, 1)", made.areLinked(0, 1), true);
        check.due("areLinked(1, 0)", made.areLinked(1, 0), true);
        check.due("areLinked(0, 2)", made.areLinked(0, 2), false);
        check.due("areLinked(1, 1)", made.areLinked(1, 1), false);
        made.toggle(1);
        check.due("down: areLinked(0, 1)", made.areLinked(0, 1), false);
        check.due("down: areLinked(1, 2)", made.areLinked(1, 2), false);
        check.due("down: areLinked(1, 1)", made.areLinked(1, 1), false);
        check.noIndex("areLinked(0, 3)", () -> made.areLinked(0, 3));
        check.noIndex("areLinked(3, 0)", () -> made.areLinked(3, 0));
        check.noIndex("areLinked(-1, 0)", () -> made.areLinked(-1, 0));
        check.noIndex("areLinked(0, -1)", () -> made.areLinked(0, -1));
        check.noIndex("areLinked(3, 3)", () -> made.areLinked(3, 3));
    }

    private static void checkLinksAndDegree() {
        Formationist made = Formations.line(8);
        check.due("line: links()", made.links(), 7);
        check.due("line: degree of an end", made.degree(0), 1);
        check.due("line: degree inside", made.degree(4), 2);
        made.toggle(4);
        check.due("right after a toggle: degree", made.degree(5), 1);
        check.due("one down: links()", made.links(), 5);
        check.due("one down: its degree", made.degree(4), 0);
        check.due("one down: degree beside it", made.degree(3), 1);
        made.block(0, 1);
        check.due("blocked: degree", made.degree(0), 0);
        check.due("blocked: links()", made.links(), 4);
        check.noIndex("degree(8)", () -> made.degree(8));
        check.noIndex("degree(-1)", () -> made.degree(-1));
        Formationist full = Formations.heap(8);
        check.due("heap: links()", full.links(), 28);
        check.due("heap: degree", full.degree(7), 7);
    }

    private static void checkGroups() {
        Formationist made = Formations.line(8);
        check.due("line: groups()", made.groups(), 1);
        made.toggle(3);
        check.due("one inside down: groups()", made.groups(), 2);
        made.toggle(4);
        made.toggle(5);
        check.due("three inside down: groups()", made.groups(), 2);
        made.toggle(4);
        check.due("one up alone: groups()", made.groups(), 3);
        made.setRange(99);
        check.due("each alone: groups()", made.groups(), 6);
        for (int member = 0; member < 8; member++) {
            if (member != 3 && member != 5) {
                made.toggle(member);
            }
        }
        check.due("all down: groups()", made.groups(), 0);
        // The way from one end to the other goes up and down the numbers.
        Formationist wound = new Formationist();
        int[] places = {0, 700, 100, 600, 200, 500, 300, 400};
        for (int place : places) {
            wound.addMember(place, 0);
        }
        check.due("wound line: groups()", wound.groups(), 1);
        wound.setPriority(1, 1);
        check.due("wound line: leader(0)", wound.leader(0), 1);
    }

    private static void checkLeader() {
        Formationist made = Formations.line(6);
        made.toggle(2);
        check.due("leader of the low group", made.leader(1), 0);
        check.due("leader of the high group", made.leader(5), 3);
        check.due("leader of one that leads", made.leader(3), 3);
        check.due("leader of one that is down", made.leader(2), -1);
        made.setPriority(4, 10);
        made.setPriority(5, 10);
        check.due("leader by priority, then number", made.leader(3), 4);
        made.setPriority(5, 11);
        check.due("leader by priority", made.leader(3), 5);
        check.due("the other group stays", made.leader(0), 0);
        made.setPriority(2, 99);
        check.due("one that is down leads none", made.leader(3), 5);
        made.toggle(2);
        check.due("one that came up leads all", made.leader(5), 2);
        made.toggle(2);
        made.toggle(5);
        check.due("the next one leads", made.leader(3), 4);
        check.noIndex("leader(6)", () -> made.leader(6));
        check.noIndex("leader(-1)", () -> made.leader(-1));
    }

    private static void checkTrees() {
        Formationist made = Formations.heap(1);
        check.due("one alone: trees()", made.trees(), 1);
        made.toggle(0);
        check.due("none up: trees()", made.trees(), 0);
        made.addMember(5, 5);
        check.due("one up: trees()", made.trees(), 1);
        made.toggle(0);
        check.due("two: trees()", made.trees(), 1);
        made.block(0, 1);
        check.due("two apart: trees()", made.trees(), 0);
        made.addMember(5, 5);
        check.due("three, one blocked: trees()", made.trees(), 1);
        made.block(0, 1);
        check.due("three: trees()", made.trees(), 3);
    }

    private static void checkTreesOfKnownFigures() {
        long[] byCayley = {1, 1, 3, 16, 125, 1296, 16807, 262144};
        for (int members = 1; members <= 8; members++) {
            check.due("heap of " + members + ": trees()", Formations.heap(members).trees(),
                    byCayley[members - 1]);
            check.due("line of " + members + ": trees()", Formations.line(members).trees(), 1);
        }
        Formationist twoGroups = Formations.heap(8);
        for (int member = 4; member < 8; member++) {
            twoGroups.move(member, 500, 500);
        }
        check.due("two groups: trees()", twoGroups.trees(), 0);
        Formationist sides = Formations.heap(8);
        for (int low = 0; low < 4; low++) {
            for (int high = low + 1; high < 4; high++) {
                sides.block(low, high);
                sides.block(low + 4, high + 4);
            }
        }
        check.due("two sides of 4: trees()", sides.trees(), 4096);
        sides.toggle(0);
        check.due("sides of 3 and 4: trees()", sides.trees(), 432);
        Formationist ring = Formations.heap(8);
        for (int low = 0; low < 8; low++) {
            for (int high = low + 2; high < 8; high++) {
                if (high - low != 7) {
                    ring.block(low, high);
                }
            }
        }
        check.due("ring of 8: links()", ring.links(), 8);
        check.due("ring of 8: trees()", ring.trees(), 8);
    }
}
