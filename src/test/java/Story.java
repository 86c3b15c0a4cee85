/**
 * All that an object can be made to tell, as one text. Two objects with the same story are in the
 * same state: what no call asks for (priorities, range, blocks, wanted squares, whose turn it is
 * to be handed a half) is found by changing it. So the object is spent after its story.
 */
final class Story {
    private final Formationist made;
    private final StringBuilder text = new StringBuilder();
    private final int members;

    private Story(Formationist made) {
        this.made = made;
        members = made.members();
    }

    /** Takes at most 290 of the 512 calls that an object is used for. */
    static String of(Formationist made) {
        Story story = new Story(made);
        story.tell("members", story.members);
        story.tellWhatIsAsked();
        story.tellLinks();
        story.tellWhatIsReplaced();
        story.tellPairs();
        story.tellWhoIsUp();
        story.tellTurns();
        story.tellNextMember();
        return story.text.toString();
    }

    private void tell(String name, long answer) {
        text.append(name).append(' ').append(answer).append('\n');
    }

    private void tell(String name, boolean answer) {
        tell(name, answer ? 1 : 0);
    }

    private void tellWhatIsAsked() {
        for (int member = 0; member < members; member++) {
            tell("xOf", made.xOf(member));
            tell("yOf", made.yOf(member));
            tell("estimate", made.estimate(member));
            tell("sum", made.sum(member));
            tell("weight", made.weight(member));
            tell("degree", made.degree(member));
            tell("leader", made.leader(member));
        }
        tell("links", made.links());
        tell("groups", made.groups());
        tell("trees", made.trees());
        tell("error", made.error());
        tell("rank", made.rank());
        tell("rankByCounting", made.rankByCounting());
        tell("isRigid", made.isRigid());
    }

    private void tellLinks() {
        for (int low = 0; low < members; low++) {
            for (int high = low + 1; high < members; high++) {
                tell("areLinked", made.areLinked(low, high));
            }
        }
    }

    private void tellWhatIsReplaced() {
        tell("setRange", made.setRange(3000));
        for (int member = 0; member < members; member++) {
            tell("setPriority", made.setPriority(member, 0));
            tell("setSum", made.setSum(member, 0));
        }
    }

    private void tellPairs() {
        for (int low = 0; low < members; low++) {
            for (int high = low + 1; high < members; high++) {
                tell("want", made.want(low, high, Formationist.NONE));
                boolean blocked = made.block(low, high);
                tell("block", blocked);
                if (blocked) {
                    made.block(low, high);
                }
            }
        }
    }

    private void tellWhoIsUp() {
        for (int member = 0; member < members; member++) {
            boolean up = made.toggle(member);
            tell("toggle", up);
            if (!up) {
                made.toggle(member);
            }
        }
    }

    /** All hear all by now; a lone sum shows to whom its member hands. */
    private void tellTurns() {
        for (int giver = 0; giver < members; giver++) {
            made.setSum(giver, 2);
            tell("spread", made.spread(1));
            for (int member = 0; member < members; member++) {
                tell("sum", made.setSum(member, 0));
            }
        }
    }

    private void tellNextMember() {
        if (members < 8) {
            tell("addMember", made.addMember(-7, 7));
            tell("xOf", made.xOf(members));
            tell("yOf", made.yOf(members));
            tell("setPriority", made.setPriority(members, 0));
            tell("toggle", made.toggle(members));
        }
    }
}
