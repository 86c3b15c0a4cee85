/** Objects that several tests begin with. */
final class Formations {
    private Formations() {
    }

    /** Members at one place, each linked with every other. */
    static Formationist heap(int members) {
        Formationist made = new Formationist();
        for (int member = 0; member < members; member++) {
            made.addMember(5, 5);
        }
        return made;
    }

    /** Members on a line, each linked with its neighbours alone. */
    static Formationist line(int members) {
        Formationist made = new Formationist();
        for (int member = 0; member < members; member++) {
            made.addMember(100 * member - 350, 0);
        }
        return made;
    }

    /** Two members that hear each other wherever they are. */
    static Formationist pair(int x, int y, int otherX, int otherY) {
        Formationist made = new Formationist();
        made.setRange(3000);
        made.addMember(x, y);
        made.addMember(otherX, otherY);
        return made;
    }

    /** Nothing of it is as at first; of four or more, one is down and one link blocked. */
    static Formationist busy(int members) {
        Formationist made = new Formationist();
        made.setRange(700);
        for (int member = 0; member < members; member++) {
            made.addMember(150 * member - 500, 40 * member * (member % 3) - 100);
            made.setPriority(member, 3 + 7 * member % 5);
            made.setEstimate(member, 1000 - 333 * member);
            made.setSum(member, 77 * member - 200);
        }
        for (int member = 1; member < members; member++) {
            made.want(member - 1, member, 40000 + member);
        }
        if (members > 3) {
            made.block(0, 3);
            made.toggle(2);
        }
        made.spread(2);
        return made;
    }

    /** Members at one place, linked by the given pairs alone. */
    static Formationist figure(int members, int... ends) {
        Formationist made = heap(members);
        for (int low = 0; low < members; low++) {
            for (int high = low + 1; high < members; high++) {
                made.block(low, high);
            }
        }
        for (int end = 0; end < ends.length; end += 2) {
            made.block(ends[end], ends[end + 1]);
        }
        return made;
    }
}
