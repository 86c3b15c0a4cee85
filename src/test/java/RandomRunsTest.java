import java.util.Random;
import java.util.function.LongSupplier;

/** Runs of 512 random calls on an object and on the model; every answer must be the same. */
public final class RandomRunsTest {
    private static final int RUNS = 1500;
    private static final int CALLS = 512;
    private static final Check check = new Check();

    private final Random random;
    private final int run;
    private final Formationist made = new Formationist();
    private final Model model = new Model();
    private final int spread;

    private RandomRunsTest(int run) {
        this.run = run;
        random = new Random(run);
        spread = 1 + random.nextInt(run % 3 == 0 ? 1000 : 150);
    }

    public static void main(String[] args) {
        for (int run = 0; run < RUNS; run++) {
            new RandomRunsTest(run).go();
        }
        check.finish();
    }

    private void go() {
        int first = random.nextInt(9);
        for (int call = 0; call < CALLS; call++) {
            oneCall(call < first ? 0 : random.nextInt(32));
        }
    }

    private void compare(String call, LongSupplier got, LongSupplier want) {
        check.same("run " + run + ": " + call, Check.answer(got), Check.answer(want));
    }

    private int member() {
        return random.nextInt(25) == 0 ? random.nextInt(12) - 2
                : random.nextInt(Math.max(1, model.members()));
    }

    private int place() {
        return random.nextInt(40) == 0 ? random.nextInt(2010) - 1005
                : random.nextInt(2 * spread + 1) - spread;
    }

    private int value() {
        return random.nextInt(2) == 0 ? random.nextInt(2000100) - 1000050
                : random.nextInt(41) - 20;
    }

    private int rounds() {
        return random.nextInt(4) == 0 ? random.nextInt(54) - 1 : 1 + random.nextInt(3);
    }

    private int square() {
        int kind = random.nextInt(8);
        return kind == 0 ? -1 : kind == 1 ? random.nextInt(8000100) - 50
                : random.nextInt(4 * spread * spread + 2);
    }

    private int rangeOf() {
        return random.nextInt(20) == 0 ? random.nextInt(3100) - 50
                : random.nextInt(3 * spread);
    }

    private void oneCall(int kind) {
        int a = member();
        int b = member();
        int x = place();
        int y = place();
        if (kind < 8) {
            changingCall(kind, a, b, x, y);
        } else if (kind < 16) {
            roundsCall(kind, a, b);
        } else if (kind < 24) {
            memberCall(kind, a, b);
        } else {
            figureCall(kind, a, b);
        }
    }

    private void changingCall(int kind, int a, int b, int x, int y) {
        int priority = random.nextInt(random.nextInt(10) == 0 ? 110 : 4) - random.nextInt(2);
        int wide = rangeOf();
        switch (kind) {
            case 0 -> compare("addMember", () -> made.addMember(x, y), () -> model.addMember(x, y));
            case 1 -> compare("move", () -> moved(a, x, y), () -> model.move(a, x, y));
            case 2 -> compare("toggle", () -> one(made.toggle(a)), () -> model.toggle(a));
            case 3 -> compare("setPriority", () -> made.setPriority(a, priority),
                    () -> model.setPriority(a, priority));
            case 4 -> compare("setRange", () -> made.setRange(wide), () -> model.setRange(wide));
            case 5 -> compare("block", () -> one(made.block(a, b)), () -> model.block(a, b));
            case 6 -> compare("areLinked", () -> one(made.areLinked(a, b)),
                    () -> model.areLinked(a, b));
            default -> compare("members", () -> made.members(), () -> model.members());
        }
    }

    private void roundsCall(int kind, int a, int b) {
        int value = value();
        int rounds = rounds();
        int square = square();
        switch (kind) {
            case 8 -> compare("setEstimate", () -> made.setEstimate(a, value),
                    () -> model.setEstimate(a, value));
            case 9 -> compare("setSum", () -> made.setSum(a, value), () -> model.setSum(a, value));
            case 10, 11 -> compare("want", () -> made.want(a, b, square),
                    () -> model.want(a, b, square));
            case 12 -> compare("agree", () -> made.agree(rounds), () -> model.agree(rounds));
            case 13 -> compare("spread", () -> made.spread(rounds), () -> model.spread(rounds));
            default -> compare("settle", () -> made.settle(rounds), () -> model.settle(rounds));
        }
    }

    private void memberCall(int kind, int a, int b) {
        switch (kind) {
            case 16 -> compare("xOf", () -> made.xOf(a), () -> model.xOf(a));
            case 17 -> compare("yOf", () -> made.yOf(a), () -> model.yOf(a));
            case 18 -> compare("estimate", () -> made.estimate(a), () -> model.estimate(a));
            case 19 -> compare("sum", () -> made.sum(a), () -> model.sum(a));
            case 20 -> compare("weight", () -> made.weight(a), () -> model.weight(a));
            case 21 -> compare("degree", () -> made.degree(a), () -> model.degree(a));
            case 22 -> compare("leader", () -> made.leader(a), () -> model.leader(a));
            default -> compare("isSpare", () -> one(made.isSpare(a, b)),
                    () -> model.isSpare(a, b));
        }
    }

    private void figureCall(int kind, int a, int b) {
        switch (kind) {
            case 24 -> compare("links", () -> made.links(), () -> model.links());
            case 25 -> compare("groups", () -> made.groups(), () -> model.groups());
            case 26 -> compare("trees", () -> made.trees(), () -> model.trees());
            case 27 -> compare("error", () -> made.error(), () -> model.error());
            case 28 -> compare("rank", () -> made.rank(), () -> model.rank());
            case 29 -> compare("rankByCounting", () -> made.rankByCounting(), () -> model.rank());
            case 30 -> compare("isRigid", () -> one(made.isRigid()), () -> model.isRigid());
            default -> compare("isSpare", () -> one(made.isSpare(a, b)),
                    () -> model.isSpare(a, b));
        }
    }

    private long moved(int member, int x, int y) {
        made.move(member, x, y);
        return 0;
    }

    private static long one(boolean answer) {
        return answer ? 1 : 0;
    }
}
