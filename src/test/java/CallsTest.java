import java.util.function.ToLongFunction;

/** What all calls have in common: 512 of them on an object, and objects that are empty or full. */
public final class CallsTest {
    private static final int MOST_CALLS = 512;
    /** The calls of Formations.busy(7): the range, four to a member, squares, a block and so on. */
    private static final int CALLS_OF_BUSY = 38;
    private static final Check check = new Check();

    private record Named(String name, ToLongFunction<Formationist> call) {
    }

    /** Calls that ask alone. */
    private static final Named[] ASKING = {
        new Named("members()", made -> made.members()),
        new Named("xOf(1)", made -> made.xOf(1)),
        new Named("yOf(1)", made -> made.yOf(1)),
        new Named("areLinked(0, 1)", made -> one(made.areLinked(0, 1))),
        new Named("areLinked(2, 2)", made -> one(made.areLinked(2, 2))),
        new Named("links()", made -> made.links()),
        new Named("degree(4)", made -> made.degree(4)),
        new Named("groups()", made -> made.groups()),
        new Named("leader(4)", made -> made.leader(4)),
        new Named("leader(2)", made -> made.leader(2)),
        new Named("trees()", made -> made.trees()),
        new Named("estimate(5)", made -> made.estimate(5)),
        new Named("sum(5)", made -> made.sum(5)),
        new Named("weight(5)", made -> made.weight(5)),
        new Named("error()", made -> made.error()),
        new Named("rank()", made -> made.rank()),
        new Named("rankByCounting()", made -> made.rankByCounting()),
        new Named("isRigid()", made -> one(made.isRigid())),
        new Named("isSpare(4, 5)", made -> one(made.isSpare(4, 5))),
        new Named("isSpare(0, 3)", made -> one(made.isSpare(0, 3))),
        new Named("isSpare(0, 7)", made -> one(made.isSpare(0, 7))),
    };

    private static final Named[] CHANGING = {
        new Named("addMember(1, 1)", made -> made.addMember(1, 1)),
        new Named("addMember(1001, 1)", made -> made.addMember(1001, 1)),
        new Named("move(1, 2, 3)", made -> moved(made, 1, 2, 3)),
        new Named("move(7, 2, 3)", made -> moved(made, 7, 2, 3)),
        new Named("toggle(2)", made -> one(made.toggle(2))),
        new Named("setPriority(1, 5)", made -> made.setPriority(1, 5)),
        new Named("setRange(5)", made -> made.setRange(5)),
        new Named("block(0, 3)", made -> one(made.block(0, 3))),
        new Named("setEstimate(3, 5)", made -> made.setEstimate(3, 5)),
        new Named("agree(50)", made -> made.agree(50)),
        new Named("setSum(3, 5)", made -> made.setSum(3, 5)),
        new Named("spread(50)", made -> made.spread(50)),
        new Named("want(3, 4, 5)", made -> made.want(3, 4, 5)),
        new Named("settle(50)", made -> made.settle(50)),
        new Named("settle(51)", made -> made.settle(51)),
    };

    public static void main(String[] args) {
        objectBeginsEmpty();
        objectsKeepApart();
        fullOfMembers();
        allDown();
        thoseDownTakeAllCalls();
        for (Named asking : ASKING) {
            askingChangesNothing(asking);
            lastCallAnswers(asking);
        }
        for (Named changing : CHANGING) {
            lastCallAnswers(changing);
        }
        changesUpToTheLastCall();
        check.finish();
    }

    private static long one(boolean answer) {
        return answer ? 1 : 0;
    }

    private static long moved(Formationist made, int member, int x, int y) {
        made.move(member, x, y);
        return 0;
    }

    private static void dueFigures(String name, Formationist made, int members, int links,
            int groups, long trees, int rank) {
        check.due(name + ": members()", made.members(), members);
        check.due(name + ": links()", made.links(), links);
        check.due(name + ": groups()", made.groups(), groups);
        check.due(name + ": trees()", made.trees(), trees);
        check.due(name + ": error()", made.error(), 0);
        check.due(name + ": rank()", made.rank(), rank);
        check.due(name + ": rankByCounting()", made.rankByCounting(), rank);
        check.due(name + ": isRigid()", made.isRigid(), rank > 0);
    }

    private static void objectBeginsEmpty() {
        dueFigures("new", new Formationist(), 0, 0, 0, 0, 0);
        check.due("new: agree(1)", new Formationist().agree(1), 0);
        check.due("new: spread(1)", new Formationist().spread(1), 0);
        check.due("new: settle(1)", new Formationist().settle(1), 0);
        check.due("new: setRange(3000)", new Formationist().setRange(3000), 100);
        check.due("new: addMember(0, 0)", new Formationist().addMember(0, 0), 0);
        Formationist after = new Formationist();
        after.agree(50);
        after.spread(50);
        after.settle(50);
        check.same("rounds of none", Story.of(after), Story.of(new Formationist()));
    }

    private static void objectsKeepApart() {
        Formationist quiet = new Formationist();
        Formations.busy(8).settle(50);
        check.same("an object beside a busy one", Story.of(quiet), Story.of(new Formationist()));
    }

    private static void fullOfMembers() {
        Formationist made = Formations.heap(8);
        dueFigures("full", made, 8, 28, 1, 262144, 13);
        check.due("full: spread(50)", made.spread(50), 400);
        check.due("full: agree(50)", made.agree(50), 0);
        check.due("full: settle(50)", made.settle(50), 0);
        for (int member = 0; member < 8; member++) {
            check.due("full: degree", made.degree(member), 7);
            check.due("full: leader", made.leader(member), 0);
        }
    }

    private static void allDown() {
        Formationist made = Formations.heap(8);
        for (int member = 0; member < 8; member++) {
            made.want((member + 1) % 8, member, 400);
            made.setEstimate(member, member - 3);
            made.setSum(member, 100);
            made.toggle(member);
        }
        dueFigures("all down", made, 8, 0, 0, 0, 0);
        check.due("all down: spread(50)", made.spread(50), 0);
        check.due("all down: agree(50)", made.agree(50), 7);
        check.due("all down: settle(50)", made.settle(50), 0);
        for (int member = 0; member < 8; member++) {
            check.due("all down: degree", made.degree(member), 0);
            check.due("all down: leader", made.leader(member), Formationist.NONE);
            check.due("all down: estimate", made.estimate(member), member - 3);
            check.due("all down: sum", made.sum(member), 100);
            check.due("all down: weight", made.weight(member), 1024);
            check.due("all down: xOf", made.xOf(member), 5);
        }
        check.due("all down: toggle", made.toggle(5), true);
        dueFigures("but one", made, 8, 0, 1, 1, 0);
    }

    private static void thoseDownTakeAllCalls() {
        Formationist made = Formations.heap(2);
        made.toggle(1);
        made.move(1, -1000, 1000);
        check.due("down: setPriority", made.setPriority(1, 99), 0);
        check.due("down: setEstimate", made.setEstimate(1, 7), 0);
        check.due("down: setSum", made.setSum(1, 8), 0);
        check.due("down: want", made.want(1, 0, 9), Formationist.NONE);
        check.due("down: block", made.block(1, 0), true);
        check.due("down: toggle", made.toggle(1), true);
        check.due("up: xOf", made.xOf(1), -1000);
        check.due("up: yOf", made.yOf(1), 1000);
        check.due("up: block", made.block(1, 0), false);
        made.move(1, 5, 5);
        check.due("up: leader", made.leader(0), 1);
        check.due("up: error()", made.error(), 9);
        check.due("up: agree(1)", made.agree(1), 1);
        check.due("up: estimate", made.estimate(1), 4);
        check.due("up: spread(1)", made.spread(1), 2);
        check.due("up: sum", made.sum(1), 4);
    }

    private static void askingChangesNothing(Named asking) {
        Formationist made = Formations.busy(7);
        String first = answer(asking, made);
        check.same(asking.name() + " again", answer(asking, made), first);
        check.same(asking.name() + " changes nothing", Story.of(made),
                Story.of(Formations.busy(7)));
    }

    private static String answer(Named named, Formationist made) {
        return Check.answer(() -> named.call().applyAsLong(made));
    }

    /** As the 512th call it answers what it does without all that was asked before. */
    private static void lastCallAnswers(Named named) {
        Formationist made = Formations.busy(7);
        for (int call = CALLS_OF_BUSY + 1; call < MOST_CALLS; call++) {
            answer(ASKING[call % ASKING.length], made);
        }
        check.same(named.name() + " as the last call", answer(named, made),
                answer(named, Formations.busy(7)));
    }

    /** Half of 512 calls are dear ones that change things; a sum keeps what was put in. */
    private static void changesUpToTheLastCall() {
        Formationist made = Formations.heap(8);
        int calls = 8;
        int added = 0;
        while (calls + 10 <= MOST_CALLS) {
            added += 1000000 - made.setSum(0, 1000000);
            check.due("spread(50) in a long run", made.spread(50), 400);
            calls += 2;
        }
        int total = 0;
        for (int member = 0; member < 8; member++) {
            total += made.sum(member);
            calls++;
        }
        check.due("sums after a long run", total, added);
        check.due("calls of a long run", calls <= MOST_CALLS, true);
        check.due("a great total", added > 5000000, true);
    }
}
