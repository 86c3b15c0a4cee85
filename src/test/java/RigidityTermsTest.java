import java.util.Arrays;

/** The edges that the document's Terms name for rigidity. */
public final class RigidityTermsTest {
    private static final Check check = new Check();

    public static void main(String[] args) {
        rankOfNone();
        rankOfOneLink();
        rankOfFullSets();
        rankOfFreeSets();
        countsWithinEachSet();
        eachLinkBesideTheMostIsOfNoUse();
        for (int members = 1; members <= 6; members++) {
            everyFigureOf(members);
        }
        rigidFromTwoMembers();
        rigidInOneGroup();
        rigidWithOneLinkTooFew();
        rigidCountsThoseUp();
        spareIfTheRankIsTheSame();
        spareOnEachLinkOfAFigure();
        spareTellsTheSameBothWays();
        check.finish();
    }

    private static void dueRank(String name, Formationist made, int rank, boolean rigid) {
        check.due(name + ": rank()", made.rank(), rank);
        check.due(name + ": rankByCounting()", made.rankByCounting(), rank);
        check.due(name + ": isRigid()", made.isRigid(), rigid);
    }

    private static void rankOfNone() {
        dueRank("without members", new Formationist(), 0, false);
        for (int members = 1; members <= 8; members++) {
            dueRank(members + " without links", Formations.figure(members), 0, false);
            Formationist down = Formations.heap(members);
            for (int member = 0; member < members; member++) {
                down.toggle(member);
            }
            dueRank(members + " that are down", down, 0, false);
        }
    }

    /** Two members may have one link, whichever two they are. */
    private static void rankOfOneLink() {
        for (int high = 0; high < 8; high++) {
            for (int low = 0; low < high; low++) {
                Formationist made = Formations.figure(8, low, high);
                dueRank("one link of eight", made, 1, false);
                check.due("one link: isSpare", made.isSpare(low, high), false);
            }
        }
    }

    private static void rankOfFullSets() {
        for (int members = 2; members <= 8; members++) {
            dueRank("a heap of " + members, Formations.heap(members), 2 * members - 3, true);
        }
    }

    /** Each member but the first two is linked with the two before it: just enough links. */
    private static void rankOfFreeSets() {
        for (int members = 2; members <= 8; members++) {
            Formationist made = strip(members);
            check.due("a strip: links()", made.links(), 2 * members - 3);
            dueRank("a strip of " + members, made, 2 * members - 3, true);
            Formationist line = Formations.line(members);
            dueRank("a line of " + members, line, members - 1, members == 2);
        }
    }

    private static Formationist strip(int members) {
        int[] ends = new int[4 * members - 6];
        ends[1] = 1;
        for (int member = 2; member < members; member++) {
            int from = 4 * member - 6;
            ends[from] = member;
            ends[from + 1] = member - 1;
            ends[from + 2] = member;
            ends[from + 3] = member - 2;
        }
        return Formations.figure(members, ends);
    }

    /** A full set of each size with a tail: enough links in number, but one set has too many. */
    private static void countsWithinEachSet() {
        for (int full = 3; full <= 7; full++) {
            for (int tail = 0; tail < full; tail++) {
                Formationist made = Formations.heap(full + 1);
                for (int member = 0; member < full; member++) {
                    if (member != tail) {
                        made.block(member, full);
                    }
                }
                dueRank("a full set of " + full + " with a tail", made, 2 * full - 2, false);
                check.due("the tail: isSpare", made.isSpare(tail, full), false);
                check.due("a link of the set: isSpare", made.isSpare(0, 1), full > 3);
            }
        }
    }

    private static void eachLinkBesideTheMostIsOfNoUse() {
        for (int members = 4; members <= 8; members++) {
            Formationist made = strip(members);
            for (int high = 0; high < members; high++) {
                for (int low = 0; low < high - 2; low++) {
                    made.block(low, high);
                    dueRank("a strip with more", made, 2 * members - 3, true);
                    check.due("one more: isSpare", made.isSpare(low, high), true);
                }
            }
        }
    }

    /** All sets of links that so many members can have, against the words of the document. */
    private static void everyFigureOf(int members) {
        int[] pairs = pairSets(members);
        int[] ranks = ranks(pairs, members);
        Formationist made = Formations.heap(members);
        for (int set = 0; set < ranks.length; set++) {
            // An object is used for at most 512 calls, so sixteen figures share one.
            int changed = set ^ set - 1;
            if (set % 16 == 0) {
                made = Formations.heap(members);
                changed = ~set;
            }
            for (int pair = 0; pair < pairs.length; pair++) {
                if ((changed & 1 << pair) != 0) {
                    blockPair(made, pairs[pair]);
                }
            }
            dueRank("figure " + set + " of " + members, made, ranks[set],
                    members >= 2 && ranks[set] == 2 * members - 3);
        }
    }

    private static void blockPair(Formationist made, int ends) {
        int low = Integer.numberOfTrailingZeros(ends);
        made.block(low, Integer.numberOfTrailingZeros(ends & ends - 1));
    }

    private static int[] pairSets(int members) {
        int[] pairs = new int[members * (members - 1) / 2];
        int number = 0;
        for (int high = 1; high < members; high++) {
            for (int low = 0; low < high; low++) {
                pairs[number] = 1 << low | 1 << high;
                number++;
            }
        }
        return pairs;
    }

    /** For each set of links the size of the greatest free one within, by trying all of them. */
    private static int[] ranks(int[] pairs, int members) {
        int[] ranks = new int[1 << pairs.length];
        for (int set = 0; set < ranks.length; set++) {
            if (isFree(set, pairs, members)) {
                ranks[set] = Integer.bitCount(set);
            } else {
                for (int pair = 0; pair < pairs.length; pair++) {
                    if ((set & 1 << pair) != 0) {
                        ranks[set] = Math.max(ranks[set], ranks[set & ~(1 << pair)]);
                    }
                }
            }
        }
        return ranks;
    }

    private static boolean isFree(int set, int[] pairs, int members) {
        for (int among = 0; among < 1 << members; among++) {
            int within = 0;
            for (int pair = 0; pair < pairs.length; pair++) {
                if ((set & 1 << pair) != 0 && (pairs[pair] & ~among) == 0) {
                    within++;
                }
            }
            int size = Integer.bitCount(among);
            if (size >= 2 && within > 2 * size - 3) {
                return false;
            }
        }
        return true;
    }

    private static void rigidFromTwoMembers() {
        check.due("none: isRigid()", new Formationist().isRigid(), false);
        check.due("one: isRigid()", Formations.heap(1).isRigid(), false);
        check.due("two: isRigid()", Formations.heap(2).isRigid(), true);
        check.due("two apart: isRigid()", Formations.figure(2).isRigid(), false);
        check.due("eight: isRigid()", Formations.heap(8).isRigid(), true);
    }

    private static void rigidInOneGroup() {
        Formationist made = Formations.heap(8);
        for (int member = 0; member < 4; member++) {
            made.move(member, 500, 500);
        }
        dueRank("two full fours apart", made, 10, false);
        Formationist alone = Formations.heap(8);
        alone.move(7, 500, 500);
        dueRank("a full seven and one apart", alone, 11, false);
        alone.toggle(7);
        dueRank("a full seven", alone, 11, true);
    }

    private static void rigidWithOneLinkTooFew() {
        for (int members = 3; members <= 8; members++) {
            Formationist made = strip(members);
            made.block(0, 1);
            dueRank("a strip of " + members + " with a link too few", made, 2 * members - 4,
                    false);
            made.block(1, 0);
            dueRank("a strip of " + members, made, 2 * members - 3, true);
        }
    }

    private static void rigidCountsThoseUp() {
        Formationist made = Formations.heap(8);
        for (int member = 0; member < 8; member++) {
            made.toggle(member);
            int up = 7 - member;
            dueRank(up + " left", made, up >= 2 ? 2 * up - 3 : 0, up >= 2);
        }
    }

    private static void spareIfTheRankIsTheSame() {
        check.due("one of two: isSpare", Formations.heap(2).isSpare(0, 1), false);
        check.due("one of three: isSpare", Formations.heap(3).isSpare(0, 1), false);
        check.due("one of four: isSpare", Formations.heap(4).isSpare(0, 1), true);
        Formationist made = Formations.heap(4);
        made.block(2, 3);
        check.due("one of four with just enough: isSpare", made.isSpare(0, 1), false);
        made.block(2, 3);
        check.due("one of four again: isSpare", made.isSpare(0, 1), true);
    }

    /** A full four, a strip from 3 over 4 and 5 to the tip 6, and a brace from 0 to 4. */
    private static void spareOnEachLinkOfAFigure() {
        Formationist made = Formations.figure(7, 0, 1, 0, 2, 0, 3, 1, 2, 1, 3, 2, 3, 3, 4, 3, 5,
                4, 5, 4, 6, 5, 6, 0, 4);
        dueRank("a four, a strip and a brace", made, 11, true);
        int[] spare = new int[7];
        for (int high = 0; high < 7; high++) {
            for (int low = 0; low < high; low++) {
                if (made.areLinked(low, high)) {
                    check.due("isSpare(" + low + ", " + high + ")", made.isSpare(low, high),
                            high < 4);
                    spare[high]++;
                }
            }
        }
        check.same("links to lower ones", Arrays.toString(spare), "[0, 1, 2, 3, 2, 2, 2]");
        made.block(0, 5);
        check.due("a second brace: isSpare", made.isSpare(0, 5), true);
        check.due("the first brace: isSpare", made.isSpare(0, 4), true);
        check.due("a link of the tip: isSpare", made.isSpare(5, 6), false);
    }

    private static void spareTellsTheSameBothWays() {
        Formationist made = Formations.heap(8);
        made.block(0, 7);
        made.block(3, 4);
        for (int one = 0; one < 8; one++) {
            for (int other = 0; other < 8; other++) {
                if (made.areLinked(one, other)) {
                    check.due("isSpare of a heap", made.isSpare(one, other), true);
                }
            }
        }
        check.due("links() after all those", made.links(), 26);
        check.due("rank() after all those", made.rank(), 13);
        Formationist strip = strip(8);
        for (int member = 1; member < 8; member++) {
            check.due("isSpare of a strip", strip.isSpare(member, member - 1), false);
            check.due("isSpare of a strip, turned", strip.isSpare(member - 1, member), false);
        }
    }
}
