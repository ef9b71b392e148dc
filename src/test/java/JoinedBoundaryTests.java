import java.util.ArrayList;
import java.util.List;
import java.util.Random;

/** Terms 3 of the document, JOINED: each sentence that names a boundary, and both sides of it. */
public final class JoinedBoundaryTests extends Telling {
    private static final String[] VALES = {
        farm("a", 60, 0, 9) + farm("b", 50, 0, 7) + farm("c", 70, 0, 5) + "fence a b 1; fence b c 1; fence a c 1;",
        farm("a", 60, 0, 9) + farm("b", 50, 0, 7) + farm("c", 70, 0, 5) + "fence a b 1; fence b c 1; fence a c 1; go 100 - flock;",
        farm("a", 9, 0, 9) + farm("b", 8, 1, 7) + farm("c", 7, 0, 0) + farm("d", 9, 0, 6) + "fence a b 1; fence b c 1; fence a c 1; fence c d 2; go fence; feed 1;",
        farm("a", 20, 0, 0) + farm("b", 20, 0, 8) + farm("c", 30, 0, 8) + farm("d", 20, 0, 8)
            + "fence a b 1; fence b c 1; fence a c 1; fence a d 1; fence b d 1; fence c d 1; pact a b; pact c d;",
        farm("a", 30, 0, 3) + farm("b", 30, 0, 3) + farm("c", 30, 0, 3) + farm("d", 30, 0, 3) + farm("e", 30, 0, 3)
            + "fence a b 1; fence b c 1; fence c d 1; fence d e 1; fence e a 1; fence a c 1; share a c; pact e a;"
    };

    public static void main(String[] args) {
        fiveFarms();
        rowsInOrder();
        pactsThatAreThere();
        eachHasLess();
        wholeSet();
        othersWithoutThem();
        firmByRecount();
        fromNowOn();
        noSuchRow();
        CHECK.close();
    }

    private static void fiveFarms() {
        CHECK.sentence("Terms 3: JOINED of 5 FARMS at most; Promise 18: without FARMS there is one row; NONE: more than 5 FARMS");
        // where nobody loses, nobody leaves: all rows are FIRM
        int[] due = {1, 1, 2, 5, 15, 52, NONE};
        for (int farms = 0; farms <= 6; farms++) {
            WolfHalf x = told(calm(farms, 0));
            CHECK.is("firm of " + farms, x.firm(1), due[farms]);
            CHECK.is("firm of " + farms + " in 28", x.firm(28), due[farms]);
            CHECK.is("group of " + farms, x.group(1, 0, 0), farms == 0 || farms == 6 ? NONE : 0);
            CHECK.is("the last FARM in the last row of " + farms, x.group(1, due[farms] - 1, farms - 1), farms == 0 || farms == 6 ? NONE : farms - 1);
        }
    }

    /** All rows of groups, in order, FARM 0 ahead: each FARM's group is at most one more than those ahead of it. */
    private static List<int[]> allRows(int farms) {
        List<int[]> rows = new ArrayList<>();
        addRows(new int[farms], 0, 0, rows);
        return rows;
    }

    private static void addRows(int[] row, int farm, int groups, List<int[]> rows) {
        if (farm == row.length) {
            rows.add(row.clone());
            return;
        }
        for (int group = 0; group <= groups; group++) {
            row[farm] = group;
            addRows(row, farm + 1, Math.max(groups, group + 1), rows);
        }
    }

    private static void rowsInOrder() {
        CHECK.sentence("Terms 3: Groups as a row: of each FARM the number of its group, numbered by their first FARMS; rows in order, FARM 0 ahead");
        for (int farms = 1; farms <= 5; farms++) {
            List<int[]> rows = allRows(farms);
            WolfHalf x = told(calm(farms, 0));
            for (int i = 0; i < rows.size(); i++) {
                for (int f = 0; f < farms; f++) {
                    CHECK.is("row " + i + " of " + farms + ", farm " + f, x.group(1, i, f), rows.get(i)[f]);
                }
            }
            CHECK.is("no more of " + farms, x.group(1, rows.size(), 0), NONE);
        }
    }

    private static void pactsThatAreThere() {
        CHECK.sentence("Terms 3: PACTS are just those of two in one group (those that are there do not count)");
        String pair = farm("a", 100, 0, 10) + farm("b", 100, 0, 10) + "fence a b 1;";
        for (String told : new String[] {pair, pair + "pact a b;"}) {
            WolfHalf x = told(told);
            // apart each loses 5, together nothing
            CHECK.is("firm", x.firm(1), 1);
            CHECK.is("together", x.group(1, 0, 1), 0);
            CHECK.is("turned", x.pact(0, 1, x.count(4) == 0), true);
            CHECK.is("firm by hand", x.firm(1), 1);
            CHECK.is("together by hand", x.group(1, 0, 1), 0);
        }
        // in the row of singles the pact with c is not there
        String three = farm("a", 0, 0, 4) + farm("b", 50, 0, 0) + farm("c", 60, 0, 0) + "fence a b 1; fence a c 1;";
        CHECK.is("with a pact or without", told(three + "pact a c;").firm(3), told(three).firm(3));
        WolfHalf other = told(farm("a", 50, 0, 0) + farm("b", 50, 0, 9) + "pact a b;");
        CHECK.is("without a fence nothing is less", other.firm(28), 2);
    }

    private static void eachHasLess() {
        CHECK.sentence("Terms 3: A set of FARMS would LEAVE if each of the set has less LOSS");
        // joined with b, a would lose 2 less and b nothing less: they stay apart, and together too
        WolfHalf one = told(farm("a", 99, 0, 0) + farm("b", 99, 0, 4) + "fence a b 1;");
        CHECK.is("one of two has as much: both rows are FIRM", one.firm(1), 2);
        // now b has one less too
        WolfHalf both = told(farm("a", 99, 0, 1) + farm("b", 99, 0, 4) + "fence a b 1;");
        CHECK.is("both have less: apart is not FIRM", both.firm(1), 1);
        CHECK.is("together is", both.group(1, 0, 1), 0);
        WolfHalf none = told(farm("a", 99, 0, 0) + farm("b", 99, 0, 0) + "fence a b 1;");
        CHECK.is("none has less", none.firm(1), 2);
        // c's wolf takes 10 of the greater flock: joined with a, b has 12, and 10 are taken;
        // alone a's wolf takes 2 of b, a has 11 then, and c's wolf goes there
        CHECK.sentence("Terms 3: A set of FARMS (of one FARM too) would LEAVE");
        WolfHalf alone = told(farm("a", 11, 0, 3) + farm("b", 12, 0, 0) + farm("c", 0, 0, 20) + "fence a b 1; fence b c 1; fence a c 1;");
        CHECK.is("all but a and b joined are FIRM", alone.firm(1), 4);
        int[][] due = {{0, 0, 0}, {0, 1, 0}, {0, 1, 1}, {0, 1, 2}};
        for (int i = 0; i < due.length; i++) {
            for (int f = 0; f < 3; f++) {
                CHECK.is("FIRM row " + i + ", farm " + f, alone.group(1, i, f), due[i][f]);
            }
        }
    }

    private static void wholeSet() {
        CHECK.sentence("Terms 3: with these as a group (all FARMS, too)");
        for (int farms = 2; farms <= 5; farms++) {
            StringBuilder text = new StringBuilder();
            for (int f = 0; f < farms; f++) {
                text.append(farm("" + (char) ('a' + f), 900, 0, 4));
            }
            // a ring of fences, each wolf to the next farm: only all together are each of them safe
            for (int f = 0; f < farms; f++) {
                if (f > 0 || farms > 2) {
                    text.append("fence ").append((char) ('a' + f)).append(' ').append((char) ('a' + (f + 1) % farms)).append(" 1;");
                }
            }
            WolfHalf x = told(text.toString());
            CHECK.is("the row of one group is the first FIRM one of " + farms, x.group(1, 0, farms - 1), 0);
            recount(text.toString(), 2);
        }
    }

    private static void othersWithoutThem() {
        CHECK.sentence("Terms 3: and all others as they are without them");
        for (String text : VALES) {
            for (int nights = 1; nights <= 28; nights += 9) {
                recount(text, nights);
            }
        }
    }

    /** The LOSS of each FARM with just the pacts of a row, made by hand. */
    private static int[] lossesOf(String text, int[] row, int nights) {
        WolfHalf x = told(text);
        for (int a = 0; a < row.length; a++) {
            for (int b = 0; b < a; b++) {
                x.pact(a, b, row[a] == row[b]);
            }
        }
        int[] losses = new int[row.length];
        for (int f = 0; f < row.length; f++) {
            losses[f] = x.loss(f, nights);
        }
        return losses;
    }

    private static int place(List<int[]> rows, int[] groups) {
        for (int i = 0; i < rows.size(); i++) {
            if (alike(rows.get(i), groups)) {
                return i;
            }
        }
        return NONE;
    }

    /** Whether the same are together in both, however the groups are numbered. */
    private static boolean alike(int[] one, int[] other) {
        for (int a = 0; a < one.length; a++) {
            for (int b = 0; b < a; b++) {
                if ((one[a] == one[b]) != (other[a] == other[b])) {
                    return false;
                }
            }
        }
        return true;
    }

    private static boolean leaves(List<int[]> rows, int[][] losses, int row, int set) {
        int[] groups = rows.get(row).clone();
        for (int f = 0; f < groups.length; f++) {
            groups[f] = (set >> f & 1) == 1 ? 99 : groups[f];
        }
        int behind = place(rows, groups);
        for (int f = 0; f < groups.length; f++) {
            if ((set >> f & 1) == 1 && losses[behind][f] >= losses[row][f]) {
                return false;
            }
        }
        return true;
    }

    private static void recount(String text, int nights) {
        WolfHalf x = told(text);
        int farms = x.count(0);
        List<int[]> rows = allRows(farms);
        int[][] losses = new int[rows.size()][];
        for (int i = 0; i < losses.length; i++) {
            losses[i] = lossesOf(text, rows.get(i), nights);
        }
        int firm = 0;
        for (int i = 0; i < losses.length; i++) {
            boolean stays = true;
            for (int set = 1; set < 1 << farms; set++) {
                stays = stays && !leaves(rows, losses, i, set);
            }
            for (int f = 0; stays && f < farms; f++) {
                CHECK.is(nights + " nights, FIRM row " + firm + ", farm " + f + ", " + text, x.group(nights, firm, f), rows.get(i)[f]);
            }
            firm += yes(stays);
        }
        CHECK.is(nights + " nights, FIRM of " + text, x.firm(nights), firm);
        CHECK.is(nights + " nights, no more of " + text, x.group(nights, firm, 0), NONE);
    }

    /** Made-up mountains, the same every time: few flocks and hungers, so that much is equal. */
    private static void firmByRecount() {
        CHECK.sentence("Promises 18, 19: FIRM rows, counted again by LOSSES with pacts made by hand");
        Random random = new Random(18);
        for (int i = 0; i < 150; i++) {
            int farms = 2 + random.nextInt(i % 10 == 0 ? 4 : 3);
            StringBuilder text = new StringBuilder();
            for (int f = 0; f < farms; f++) {
                text.append(farm("" + (char) ('a' + f), 5 + random.nextInt(9), random.nextInt(2), random.nextInt(7)));
                for (int other = 0; other < f; other++) {
                    String pair = " " + (char) ('a' + f) + " " + (char) ('a' + other);
                    text.append(random.nextInt(5) > 0 ? "fence" + pair + " " + random.nextInt(9) + ";" : "");
                    text.append(random.nextInt(5) == 0 ? "pact" + pair + ";" : "");
                }
            }
            String[] laws = {"", "go 20 - flock;", "go fence + 1;", "go 1;"};
            recount(text + laws[random.nextInt(4)], 1 + random.nextInt(3));
        }
    }

    private static void fromNowOn() {
        CHECK.sentence("Terms 3: JOINED: LOSS in some NIGHTS from now on");
        // from night 3 on the wolves are fed at HOME, and nothing is less by a PACT
        WolfHalf x = told(farm("a", 100, 0, 10) + farm("b", 100, 0, 10) + "fence a b 1; feed 10 * (2 < night);");
        x.mark(0, false);
        CHECK.is("only together", x.firm(3), 1);
        CHECK.is("its one row", x.group(3, 1, 0), NONE);
        x.nights(2);
        CHECK.is("one night more", x.firm(3), 1);
        x.nights(1);
        CHECK.is("apart too, by the nights", x.firm(3), 2);
        CHECK.is("the second row", x.group(3, 1, 1), 1);
        CHECK.is("back", x.mark(0, true), true);
        CHECK.is("only together, by the MARK", x.firm(3), 1);
        CHECK.is("no second row", x.group(3, 1, 1), NONE);
        CHECK.is("another MOUNTAIN", Check.mountain(x, calm(2, 0)), 0);
        CHECK.is("apart too, by the MOUNTAIN", x.firm(3), 2);
        // whether a's wolf goes to b or to c hangs on the SEED
        String fork = farm("a", 90, 0, 4) + farm("b", 90, 0, 4) + farm("c", 90, 0, 0) + "fence a b 1; fence a c 1; go 1;";
        WolfHalf y = told(fork);
        for (int seed = 0; seed < 40; seed++) {
            y.seed(seed);
            WolfHalf twin = told(fork);
            twin.seed(seed);
            CHECK.is("by the SEED " + seed, y.firm(1), twin.firm(1));
        }
    }

    private static void noSuchRow() {
        CHECK.sentence("Promise 19: group: NONE: others, none such");
        WolfHalf x = told(calm(3, 0));
        int[] rows = {-1, 5, 6, LEAST, MOST};
        for (int i : rows) {
            CHECK.is("row " + i, x.group(1, i, 0), NONE);
        }
        int[] farms = {-1, 3, 4, 5, 6, LEAST, MOST};
        for (int f : farms) {
            CHECK.is("farm " + f, x.group(1, 0, f), NONE);
        }
        CHECK.is("the last row, the last farm", x.group(28, 4, 2), 2);
        CHECK.is("the first row, the first farm", x.group(28, 0, 0), 0);
        CHECK.is("of none", new WolfHalf().group(1, 0, 0), NONE);
    }
}
