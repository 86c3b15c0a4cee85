/** Promises 1 to 10: a new object, its members, their places, ups and downs, range and blocks. */
public final class MembersTest {
    private static final Check check = new Check();

    public static void main(String[] args) {
        checkNewObject();
        checkAddMember();
        checkAddMemberThrows();
        checkMove();
        checkMoveThrows();
        checkToggle();
        checkSetPriority();
        checkSetRange();
        checkBlock();
        checkBlockThrows();
        checkPlaces();
        check.finish();
    }

    private static Formationist twoMembers() {
        Formationist made = new Formationist();
        made.addMember(0, 0);
        made.addMember(60, 80);
        return made;
    }

    private static void checkNewObject() {
        Formationist made = new Formationist();
        check.due("new: members()", made.members(), 0);
        check.due("new: links()", made.links(), 0);
        check.due("new: groups()", made.groups(), 0);
        check.due("new: trees()", made.trees(), 0);
        check.due("new: error()", made.error(), 0);
        check.due("new: rank()", made.rank(), 0);
        check.due("new: rankByCounting()", made.rankByCounting(), 0);
        check.due("new: isRigid()", made.isRigid(), false);
        check.due("new: setRange(5)", made.setRange(5), 100);
        Formationist other = new Formationist();
        made.addMember(1, 1);
        check.due("objects keep apart: members()", other.members(), 0);
    }

    private static void checkAddMember() {
        Formationist made = new Formationist();
        for (int number = 0; number < 8; number++) {
            check.due("addMember " + number, made.addMember(number, -number), number);
            check.due("members after addMember", made.members(), number + 1);
        }
        check.due("xOf a new member", made.xOf(7), 7);
        check.due("yOf a new member", made.yOf(7), -7);
        check.due("leader of new members", made.leader(7), 0);
        check.due("estimate of a new member", made.estimate(7), 0);
        check.due("sum of a new member", made.sum(7), 0);
        check.due("weight of a new member", made.weight(7), 1024);
        check.due("priority of a new member", made.setPriority(7, 3), 0);
        check.due("a new member is up", made.toggle(7), false);
        Formationist far = new Formationist();
        check.due("addMember(-1000, 1000)", far.addMember(-1000, 1000), 0);
        check.due("addMember(1000, -1000)", far.addMember(1000, -1000), 1);
        check.due("xOf(1)", far.xOf(1), 1000);
        check.due("yOf(0)", far.yOf(0), 1000);
    }

    private static void checkAddMemberThrows() {
        Formationist made = new Formationist();
        check.noArgument("addMember(1001, 0)", () -> made.addMember(1001, 0));
        check.noArgument("addMember(-1001, 0)", () -> made.addMember(-1001, 0));
        check.noArgument("addMember(0, 1001)", () -> made.addMember(0, 1001));
        check.noArgument("addMember(0, -1001)", () -> made.addMember(0, -1001));
        check.noArgument("addMember(least)", () -> made.addMember(Integer.MIN_VALUE, 0));
        check.due("members after throws", made.members(), 0);
        for (int number = 0; number < 8; number++) {
            made.addMember(0, 0);
        }
        check.dueThrow("addMember, a ninth", IllegalStateException.class,
                () -> made.addMember(0, 0));
        check.noArgument("addMember, a ninth out of range", () -> made.addMember(0, 1001));
        made.toggle(3);
        check.dueThrow("addMember, one being down", IllegalStateException.class,
                () -> made.addMember(0, 0));
        check.due("members when full", made.members(), 8);
    }

    private static void checkMove() {
        Formationist made = twoMembers();
        made.move(1, -1000, 1000);
        check.due("xOf after move", made.xOf(1), -1000);
        check.due("yOf after move", made.yOf(1), 1000);
        check.due("move unlinks", made.areLinked(0, 1), false);
        made.move(1, 1000, -1000);
        check.due("xOf after a second move", made.xOf(1), 1000);
        check.due("yOf after a second move", made.yOf(1), -1000);
        made.move(1, 0, 100);
        check.due("move links", made.areLinked(0, 1), true);
        check.due("another stays", made.xOf(0) + made.yOf(0), 0);
    }

    private static void checkMoveThrows() {
        Formationist made = twoMembers();
        check.noIndex("move(2, 0, 0)", () -> made.move(2, 0, 0));
        check.noIndex("move(-1, 0, 0)", () -> made.move(-1, 0, 0));
        check.noIndex("move(2, 1001, 0)", () -> made.move(2, 1001, 0));
        check.noArgument("move(1, 1001, 0)", () -> made.move(1, 1001, 0));
        check.noArgument("move(1, -1001, 0)", () -> made.move(1, -1001, 0));
        check.noArgument("move(1, 0, 1001)", () -> made.move(1, 0, 1001));
        check.noArgument("move(1, 0, -1001)", () -> made.move(1, 0, -1001));
        check.due("xOf after throws", made.xOf(1), 60);
        check.due("yOf after throws", made.yOf(1), 80);
    }

    private static void checkToggle() {
        Formationist made = twoMembers();
        check.due("toggle down", made.toggle(1), false);
        check.due("down: areLinked", made.areLinked(0, 1), false);
        check.due("down: members", made.members(), 2);
        check.due("toggle up", made.toggle(1), true);
        check.due("up: areLinked", made.areLinked(0, 1), true);
        check.noIndex("toggle(2)", () -> made.toggle(2));
        check.noIndex("toggle(-1)", () -> made.toggle(-1));
    }

    private static void checkSetPriority() {
        Formationist made = twoMembers();
        check.due("setPriority(1, 99)", made.setPriority(1, 99), 0);
        check.due("setPriority(1, 0)", made.setPriority(1, 0), 99);
        check.noIndex("setPriority(2, 0)", () -> made.setPriority(2, 0));
        check.noIndex("setPriority(-1, 100)", () -> made.setPriority(-1, 100));
        check.noArgument("setPriority(1, 100)", () -> made.setPriority(1, 100));
        check.noArgument("setPriority(1, -1)", () -> made.setPriority(1, -1));
        check.due("setPriority after throws", made.setPriority(1, 7), 0);
        check.due("setPriority is of one member", made.setPriority(0, 7), 0);
    }

    private static void checkSetRange() {
        Formationist made = twoMembers();
        check.due("setRange(99)", made.setRange(99), 100);
        check.due("99 is too short for 60, 80", made.areLinked(0, 1), false);
        check.due("setRange(3000)", made.setRange(3000), 99);
        made.move(0, -1000, -1000);
        made.move(1, 1000, 1000);
        check.due("3000 reaches over all", made.areLinked(0, 1), true);
        check.due("setRange(2828)", made.setRange(2828), 3000);
        check.due("2828 just does not", made.areLinked(0, 1), false);
        check.due("setRange(0)", made.setRange(0), 2828);
        made.move(1, -1000, -1000);
        check.due("0 reaches the same place", made.areLinked(0, 1), true);
        made.move(1, -1000, -999);
        check.due("0 reaches no other place", made.areLinked(0, 1), false);
        check.noArgument("setRange(-1)", () -> made.setRange(-1));
        check.noArgument("setRange(3001)", () -> made.setRange(3001));
        check.due("setRange after throws", made.setRange(1), 0);
        check.due("1 reaches the next place", made.areLinked(0, 1), true);
    }

    private static void checkBlock() {
        Formationist made = twoMembers();
        made.addMember(10, 10);
        check.due("block(0, 1)", made.block(0, 1), true);
        check.due("blocked: areLinked(0, 1)", made.areLinked(0, 1), false);
        check.due("blocked: areLinked(1, 0)", made.areLinked(1, 0), false);
        check.due("other links stand", made.links(), 2);
        check.due("block(1, 0) takes it back", made.block(1, 0), false);
        check.due("taken back: areLinked(0, 1)", made.areLinked(0, 1), true);
        made.move(1, 500, 500);
        check.due("block of two out of range", made.block(0, 1), true);
        made.toggle(0);
        made.toggle(0);
        made.move(1, 0, 0);
        check.due("a block outlives moves and toggles", made.areLinked(0, 1), false);
        check.due("block(0, 1) again", made.block(0, 1), false);
        made.toggle(2);
        check.due("block of one that is down", made.block(2, 0), true);
    }

    private static void checkBlockThrows() {
        Formationist made = twoMembers();
        check.noIndex("block(0, 2)", () -> made.block(0, 2));
        check.noIndex("block(2, 0)", () -> made.block(2, 0));
        check.noIndex("block(-1, 0)", () -> made.block(-1, 0));
        check.noIndex("block(2, 2)", () -> made.block(2, 2));
        check.noArgument("block(1, 1)", () -> made.block(1, 1));
        check.due("links after throws", made.links(), 1);
    }

    private static void checkPlaces() {
        Formationist made = twoMembers();
        check.due("xOf(1)", made.xOf(1), 60);
        check.due("yOf(1)", made.yOf(1), 80);
        check.due("xOf(0)", made.xOf(0), 0);
        made.toggle(1);
        check.due("xOf one that is down", made.xOf(1), 60);
        check.due("yOf one that is down", made.yOf(1), 80);
        check.noIndex("xOf(2)", () -> made.xOf(2));
        check.noIndex("xOf(-1)", () -> made.xOf(-1));
        check.noIndex("yOf(2)", () -> made.yOf(2));
        check.noIndex("yOf(-1)", () -> made.yOf(-1));
    }
}
