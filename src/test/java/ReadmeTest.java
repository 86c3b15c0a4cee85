import java.io.IOException;
import java.lang.reflect.Method;
import java.lang.reflect.Modifier;
import java.nio.file.Files;
import java.nio.file.Path;
import java.util.ArrayList;
import java.util.List;

/** The example of README.md answers what its comments say, and the page names each call. */
public final class ReadmeTest {
    private final Check check = new Check();
    private final String page;
    private final List<String> example = new ArrayList<>();
    private int told = 0;

    private ReadmeTest(String page) {
        this.page = page;
        boolean within = false;
        for (String line : page.split("\n")) {
            if (line.startsWith("```")) {
                within = line.equals("```java");
            } else if (within) {
                example.add(line);
            }
        }
    }

    public static void main(String[] args) throws IOException {
        // .ci/run runs the tests from the folder that holds the page.
        ReadmeTest test = new ReadmeTest(Files.readString(Path.of("README.md")));
        test.exampleAnswersAsToldThere();
        test.pageNamesEachCall();
        test.check.finish();
    }

    private void exampleAnswersAsToldThere() {
        Formationist formation = new Formationist();
        tell("Formationist formation = new Formationist();", "");
        tell("formation.setRange(500);", formation.setRange(500));
        int first = formation.addMember(0, 0);
        tell("int first = formation.addMember(0, 0);", first);
        int second = formation.addMember(300, 400);
        tell("int second = formation.addMember(300, 400);", second);
        int third = formation.addMember(-300, 400);
        tell("int third = formation.addMember(-300, 400);", third);
        tell("formation.links();", formation.links());
        tell("formation.setPriority(second, 7);", formation.setPriority(second, 7));
        tell("formation.leader(third);", formation.leader(third));
        tell("formation.setEstimate(first, 12);", formation.setEstimate(first, 12));
        tell("formation.agree(1);", formation.agree(1));
        tell("formation.setSum(first, 1000);", formation.setSum(first, 1000));
        tell("formation.spread(1);", formation.spread(1));
        tell("formation.sum(second);", formation.sum(second));
        tell("formation.weight(first);", formation.weight(first));
        tell("formation.want(first, second, 40000);", formation.want(first, second, 40000));
        tell("formation.error();", formation.error());
        tell("formation.settle(1);", formation.settle(1));
        tell("formation.xOf(first);", formation.xOf(first));
        tell("formation.isRigid();", formation.isRigid());
        tell("formation.isSpare(first, second);", formation.isSpare(first, second));
        tell("formation.toggle(third);", formation.toggle(third));
        tell("formation.isRigid();", formation.isRigid());
        check.due("lines of the example", told, example.size());
    }

    /** The next line of the example must hold this call and begin its comment with the answer. */
    private void tell(String call, Object answer) {
        String line = told < example.size() ? example.get(told) : "";
        told++;
        String[] parts = line.split("//", 2);
        String comment = parts.length < 2 ? "" : parts[1].strip();
        check.same("the call in line " + told + " of the example", parts[0].strip(), call);
        check.same(call + " in the example", comment.split("[ ,:]", 2)[0], answer.toString());
    }

    private void pageNamesEachCall() {
        for (Method method : Formationist.class.getDeclaredMethods()) {
            if (Modifier.isPublic(method.getModifiers())) {
                String named = "`" + method.getName() + "(";
                check.due("README.md names " + method.getName(), page.contains(named), true);
            }
        }
        check.due("README.md names .ci/run", page.contains(".ci/run"), true);
    }
}
