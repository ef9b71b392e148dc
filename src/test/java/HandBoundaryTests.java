/** Terms 4 of the document, BITES, WHOSE, CHANCE, PACTS by hand, MARKS: each sentence that names a boundary, and both sides of it. */
public final class HandBoundaryTests extends Telling {
    public static void main(String[] args) {
        eightBites();
        howWide();
        hungerAboveNone();
        productOfBites();
        sumOfNone();
        lowestTerms();
        chanceOfAll();
        chanceWithoutOne();
        chanceTonight();
        chanceInLowestTerms();
        pactByHand();
        fourMarks();
        marksHoldAll();
        marksHoldRows();
        marksHoldMarks();
        CHECK.close();
    }

    private static void eightBites() {
        CHECK.sentence("Terms 4: BITES, 8 at most; Promise 21: how many there are; NONE: 8 are there");
        WolfHalf x = new WolfHalf();
        for (int i = 1; i <= 8; i++) {
            CHECK.is("the bite " + i, x.bite(1 + i % 4), i);
            CHECK.is("count behind it", x.count(6), i);
        }
        for (int wide = 1; wide <= 4; wide++) {
            CHECK.is("a ninth", x.bite(wide), NONE);
        }
        CHECK.is("8 are there", x.count(6), 8);
        CHECK.sentence("Promise 21: 0: none any more (0)");
        CHECK.is("with 8", x.bite(0), 0);
        CHECK.is("none", x.count(6), 0);
        CHECK.is("with none", x.bite(0), 0);
        CHECK.is("the first again", x.bite(4), 1);
        CHECK.is("with one", x.bite(0), 0);
        // the ninth is not there: 9 to the 8th of 9 to the 8th and 1
        WolfHalf y = told(farm("a", 1, 0, 1) + farm("b", 1, 0, 1) + "tooth a 9 1 1 1;");
        for (int i = 0; i < 9; i++) {
            y.bite(1);
        }
        CHECK.is("of 8 bites", y.whose(0, 0), 43046721);
        CHECK.is("of 8 bites, below", y.whose(0, 1), 43046722);
        y.bite(0);
        CHECK.is("of no bite", y.whose(0, 1), 2);
    }

    private static void howWide() {
        CHECK.sentence("Terms 4: BITES: how wide (1 to 4); Promise 21: NONE: others");
        WolfHalf x = told(farm("a", 1, 0, 1) + farm("b", 1, 0, 1) + "tooth a 2 3 4 5;");
        for (int wide : new int[] {-1, 5, 6, 8, LEAST, MOST}) {
            CHECK.is("a bite " + wide + " wide", x.bite(wide), NONE);
            CHECK.is("is none", x.count(6), 0);
        }
        for (int wide = 1; wide <= 4; wide++) {
            CHECK.is("a bite " + wide + " wide", x.bite(wide), 1);
            CHECK.is("above", x.whose(0, 0), wide + 1);
            CHECK.is("below", x.whose(0, 1), wide + 2);
            x.bite(0);
        }
        CHECK.sentence("Promise 5: tooth: so wide (1 to 4); NONE: others");
        for (int farm : new int[] {-1, 2, 5, 6, LEAST, MOST}) {
            CHECK.is("tooth of no FARM " + farm, x.tooth(farm, 1), NONE);
        }
        for (int wide : new int[] {-1, 0, 5, LEAST, MOST}) {
            CHECK.is("tooth " + wide + " wide", x.tooth(1, wide), NONE);
        }
        for (int wide = 1; wide <= 4; wide++) {
            CHECK.is("tooth " + wide + " wide", x.tooth(0, wide), wide + 1);
            CHECK.is("tooth " + wide + " wide without a line", x.tooth(1, wide), 1);
        }
    }

    private static void hungerAboveNone() {
        CHECK.sentence("Terms 4: WHOSE: the odds of a wolf (HUNGER above 0); Promise 22: NONE: it has no wolf");
        WolfHalf x = told(farm("a", 1, 0, 0) + farm("b", 1, 0, 1) + farm("c", 1, 0, 99) + farm("d", 1, 0, 0));
        CHECK.is("HUNGER 0, above", x.whose(0, 0), NONE);
        CHECK.is("HUNGER 0, below", x.whose(0, 1), NONE);
        CHECK.is("HUNGER 1, above", x.whose(1, 0), 1);
        CHECK.is("HUNGER 1, below: only wolves count", x.whose(1, 1), 2);
        CHECK.is("HUNGER 99", x.whose(2, 1), 2);
        CHECK.is("HUNGER 0, the last", x.whose(3, 0), NONE);
        for (int farm : new int[] {-1, 4, 5, 6, LEAST, MOST}) {
            CHECK.is("of no FARM " + farm, x.whose(farm, 0), NONE);
            CHECK.is("of no FARM " + farm + ", below", x.whose(farm, 1), NONE);
        }
        for (int what : new int[] {-1, 2, 3, LEAST, MOST}) {
            CHECK.is("what " + what, x.whose(1, what), NONE);
        }
        CHECK.is("one wolf alone, above", told(farm("a", 1, 0, 5)).whose(0, 0), 1);
        CHECK.is("one wolf alone, below", told(farm("a", 1, 0, 5)).whose(0, 1), 1);
    }

    private static void productOfBites() {
        CHECK.sentence("Terms 4: WHOSE: the product of how often it bites so wide, for all BITES, by the sum of these of all wolves");
        WolfHalf x = told(farm("a", 1, 0, 1) + farm("b", 1, 0, 1) + farm("c", 1, 0, 1) + farm("d", 1, 0, 1) + farm("e", 1, 0, 1) + farm("f", 1, 0, 1)
            + "tooth a 2 3 5 7; tooth c 1 2 3 4;");
        CHECK.is("of no BITE each is 1 of 6", x.whose(5, 0) * 10 + x.whose(5, 1), 16);
        int a = 1;
        int c = 1;
        int[] bites = {2, 3, 4, 3, 1, 2, 4, 4};
        int[] ofA = {2, 3, 5, 7};
        for (int wide : bites) {
            x.bite(wide);
            a *= ofA[wide - 1];
            c *= wide;
            int sum = a + c + 4;
            CHECK.is("a", (long) x.whose(0, 0) * sum, (long) x.whose(0, 1) * a);
            CHECK.is("c", (long) x.whose(2, 0) * sum, (long) x.whose(2, 1) * c);
            CHECK.is("f", (long) x.whose(5, 0) * sum, (long) x.whose(5, 1));
        }
        WolfHalf top = told(farm("a", 1, 0, 1) + farm("b", 1, 0, 1) + farm("c", 1, 0, 1) + farm("d", 1, 0, 1) + farm("e", 1, 0, 1) + farm("f", 1, 0, 1)
            + "tooth a 9 1 1 1; tooth b 9 1 1 1; tooth c 9 1 1 1; tooth d 9 1 1 1; tooth e 9 1 1 1; tooth f 8 1 1 1;");
        for (int i = 0; i < 8; i++) {
            top.bite(1);
        }
        CHECK.is("5 times 9 to the 8th, and 8 to the 8th", top.whose(5, 1), 5L * 43046721 + 16777216);
        CHECK.is("8 to the 8th", top.whose(5, 0), 16777216);
    }

    private static void sumOfNone() {
        CHECK.sentence("Promise 22: NONE: the sum is 0");
        WolfHalf x = told(farm("a", 1, 0, 5) + farm("b", 1, 0, 5) + farm("c", 1, 0, 0) + "tooth a 1 0 2 0; tooth b 0 3 0 1; tooth c 1 1 1 1;");
        x.bite(1);
        CHECK.is("a's, above", x.whose(0, 0), 1);
        CHECK.is("a's, below", x.whose(0, 1), 1);
        CHECK.is("not b's, above", x.whose(1, 0), 0);
        CHECK.is("not b's, below: in lowest terms", x.whose(1, 1), 1);
        x.bite(2);
        for (int what = 0; what <= 1; what++) {
            CHECK.is("neither's: the sum is 0", x.whose(0, what), NONE);
            CHECK.is("neither's: the sum is 0", x.whose(1, what), NONE);
        }
        CHECK.is("without FARMS", new WolfHalf().whose(0, 0), NONE);
    }

    private static void lowestTerms() {
        CHECK.sentence("Promise 22: what 0: above, 1: below, in lowest terms");
        WolfHalf x = told(farm("a", 1, 0, 5) + farm("b", 1, 0, 5) + farm("c", 1, 0, 5) + "tooth a 6 0 1 9; tooth b 3 9 1 9; tooth c 9 9 1 9;");
        x.bite(1);
        int[][] due = {{1, 3}, {1, 6}, {1, 2}};
        for (int f = 0; f < 3; f++) {
            CHECK.is("above, " + f, x.whose(f, 0), due[f][0]);
            CHECK.is("below, " + f, x.whose(f, 1), due[f][1]);
        }
        x.bite(2);
        CHECK.is("0 above", x.whose(0, 0), 0);
        CHECK.is("1 below", x.whose(0, 1), 1);
        CHECK.is("27 of 108", x.whose(1, 0) * 10 + x.whose(1, 1), 14);
        CHECK.is("81 of 108", x.whose(2, 0) * 10 + x.whose(2, 1), 34);
    }

    private static void chance(String text, int above, int below) {
        WolfHalf x = told(text);
        CHECK.is("above of " + text, x.chance(0), above);
        CHECK.is("below of " + text, x.chance(1), below);
    }

    private static void chanceOfAll() {
        CHECK.sentence("Terms 4: CHANCE that all wolves that have NEIGHBOURS at HOME tonight are at one FARM, if each goes to each of its NEIGHBOURS alike");
        String three = farm("a", 1, 0, 1) + farm("b", 1, 0, 1) + farm("c", 1, 0, 0);
        String ring = "fence a b 0; fence b c 0; fence a c 0;";
        chance(three + ring, 1, 4);
        chance(farm("a", 1, 0, 1) + farm("b", 1, 0, 0) + farm("c", 1, 0, 0) + ring, 1, 1);
        chance(farm("a", 1, 0, 1) + farm("b", 1, 0, 1) + farm("c", 1, 0, 1) + ring, 0, 1);
        // a wolf without NEIGHBOURS does not count: only a's goes, to b or c
        chance(farm("a", 1, 0, 1) + farm("b", 1, 0, 0) + farm("c", 1, 0, 0) + farm("d", 1, 0, 1) + "fence a b 1; fence a c 1;", 1, 1);
        chance(three + "fence a c 0; fence b c 9;", 1, 1);
        chance(three + "fence a b 0;", 0, 1);
        chance(three + ring + "pact a b;", 1, 1);
        chance(three + ring + "pact a c;", 0, 1);
        // 5 wolves, and the sixth FARM is all that they have in common
        StringBuilder six = new StringBuilder();
        for (int f = 0; f < 6; f++) {
            six.append(farm("" + (char) ('a' + f), 1, 0, f < 5 ? 1 : 0));
            for (int other = 0; other < f; other++) {
                six.append("fence ").append((char) ('a' + f)).append(' ').append((char) ('a' + other)).append(" 1;");
            }
        }
        chance(six.toString(), 1, 3125);
    }

    private static void chanceWithoutOne() {
        CHECK.sentence("Terms 4: CHANCE (without one: 1)");
        chance("", 1, 1);
        chance(farm("a", 1, 0, 9) + farm("b", 1, 0, 9), 1, 1);
        chance(farm("a", 1, 0, 0) + farm("b", 1, 0, 0) + "fence a b 1;", 1, 1);
        chance(farm("a", 1, 0, 9) + farm("b", 1, 0, 9) + "fence a b 1; pact a b;", 1, 1);
        CHECK.sentence("Promise 23: what 0: above, 1: below; NONE: another what");
        for (int what : new int[] {-1, 2, 3, LEAST, MOST}) {
            CHECK.is("what " + what, new WolfHalf().chance(what), NONE);
            CHECK.is("what " + what, told(farm("a", 1, 0, 9) + farm("b", 1, 0, 9) + "fence a b 1;").chance(what), NONE);
        }
    }

    private static void chanceTonight() {
        CHECK.sentence("Terms 4: CHANCE: at HOME tonight");
        String text = farm("a", 1, 0, 1) + farm("b", 1, 0, 1) + farm("c", 1, 0, 0) + farm("d", 1, 0, 0)
            + "fence b c 0; fence a d 0; share a b;";
        int[][] due = {{0, 0}, {27, 0}, {28, 1}, {55, 1}, {56, 0}};
        for (int[] row : due) {
            WolfHalf x = told(text);
            x.nights(row[0]);
            CHECK.is("d and c, or both c, night " + row[0], x.chance(0), row[1]);
        }
    }

    private static void chanceInLowestTerms() {
        CHECK.sentence("Promise 23: in lowest terms");
        String four = farm("a", 1, 0, 1) + farm("b", 1, 0, 1) + farm("c", 1, 0, 0) + farm("d", 1, 0, 0) + farm("e", 1, 0, 0);
        String both = "fence a c 0; fence a d 0; fence b c 0; fence b d 0;";
        chance(four + both, 1, 2);
        chance(four + both + "fence a b 0;", 2, 9);
        chance(four + both + "fence a e 0;", 1, 3);
        chance(four + both + "fence a e 0; fence b e 0;", 1, 3);
        chance(four + both + "fence a e 0; fence b e 0; fence a b 0;", 3, 16);
    }

    private static void pactByHand() {
        CHECK.sentence("Terms 4: A PACT is made or unmade by hand; Promise 8: true; false: others, it is so");
        WolfHalf x = told(farm("a", 1, 0, 1) + farm("b", 1, 0, 1) + farm("c", 1, 0, 1) + "fence a b 0; pact a c;");
        CHECK.is("it is so", x.pact(0, 2, true), false);
        CHECK.is("it is so, turned", x.pact(2, 0, true), false);
        CHECK.is("it is not there", x.pact(0, 1, false), false);
        CHECK.is("made", x.pact(0, 1, true), true);
        CHECK.is("made already", x.pact(1, 0, true), false);
        CHECK.is("two", x.count(4), 2);
        CHECK.is("made without a fence", x.pact(1, 2, true), true);
        CHECK.is("three", x.count(4), 3);
        CHECK.is("of b", x.farm(1, 6), 5);
        CHECK.is("unmade", x.pact(2, 0, false), true);
        CHECK.is("unmade already", x.pact(0, 2, false), false);
        CHECK.is("two then", x.count(4), 2);
        for (int f : new int[] {-1, 3, 4, 5, 6, LEAST, MOST}) {
            CHECK.is("with no FARM " + f, x.pact(0, f, true), false);
            CHECK.is("of no FARM " + f, x.pact(f, 0, true), false);
            CHECK.is("with no FARM, unmade " + f, x.pact(0, f, false), false);
            CHECK.is("of no FARM, unmade " + f, x.pact(f, 0, false), false);
        }
        for (int f = 0; f < 3; f++) {
            CHECK.is("with itself", x.pact(f, f, true), false);
            CHECK.is("with itself, unmade", x.pact(f, f, false), false);
        }
        CHECK.is("two still", x.count(4), 2);
        CHECK.is("the last two FARMS", told(farm("a", 1, 0, 1) + farm("b", 1, 0, 1)).pact(1, 0, true), true);
    }

    private static void fourMarks() {
        CHECK.sentence("Terms 4: MARKS 0 to 3; Promise 24: true; false: none such, nothing is on it (back)");
        WolfHalf x = told(farm("a", 9, 0, 1) + farm("b", 9, 0, 1));
        for (int mark : new int[] {-1, 4, 5, LEAST, MOST}) {
            CHECK.is("laid, " + mark, x.mark(mark, false), false);
            CHECK.is("back, " + mark, x.mark(mark, true), false);
        }
        for (int mark = 0; mark <= 3; mark++) {
            CHECK.is("nothing is on " + mark, x.mark(mark, true), false);
            CHECK.is("laid, " + mark, x.mark(mark, false), true);
            x.nights(1);
            for (int other = 0; other <= 3; other++) {
                CHECK.is("back, " + other, x.mark(other, true), other <= mark);
                CHECK.is("the night of " + other, x.count(1), Math.min(other, mark));
            }
            x.nights(1);
        }
        CHECK.is("laid over", x.mark(2, false), true);
        CHECK.is("back to the first", x.mark(0, true) && x.count(1) == 0, true);
        CHECK.is("back to what was laid over it", x.mark(2, true) && x.count(1) == 4, true);
        CHECK.is("of a new object too", new WolfHalf().mark(3, false), true);
    }

    private static void marksHoldAll() {
        CHECK.sentence("Terms 4: MARKS hold all but the TAPE");
        String text = farm("a", 0, 0, 10) + farm("b", 90, 1, 0) + farm("c", 90, 1, 0) + "fence a b 1; fence a c 1; go 1;";
        WolfHalf x = told(text);
        x.seed(1);
        x.nights(2);
        x.bite(3);
        x.pact(1, 2, true);
        x.mark(0, false);
        x.bite(1);
        x.feed(0x616161L, 0, 0);
        x.pact(0, 2, true);
        x.nights(30);
        CHECK.is("another seed", x.seed(9), true);
        CHECK.is("back", x.mark(0, true), true);
        CHECK.is("the night", x.count(1), 2);
        CHECK.is("BITES", x.count(6), 1);
        CHECK.is("BONES", x.bones(), 2);
        CHECK.noSuch("no BONE more is kept", () -> x.bone(2, 0));
        CHECK.is("FEUDS", x.count(7), 0);
        CHECK.is("FEUDS of two", x.feuds(0, 1), 0);
        CHECK.is("PACTS", x.count(4), 1);
        CHECK.is("with whom", x.farm(1, 6), 4);
        CHECK.is("flock", x.farm(1, 0), 82);
        CHECK.is("lean", x.farm(0, 3), 2);
        CHECK.is("gone", x.gone(1, true), 8);
        CHECK.is("the TAPE stays", x.count(8), 3);
        x.nights(1);
        // of SEED 1 the third draw below 2 is 1
        CHECK.is("g", x.bone(2, 1), 2);
        CHECK.is("a FEUD behind the third lean night", x.feuds(0, 2), 1);
        CHECK.is("back once more", x.mark(0, true), true);
        CHECK.is("no FEUD once more", x.feuds(0, 2), 0);
        CHECK.is("2 BONES once more", x.bones(), 2);
        WolfHalf fed = told(farm("a", 90, 0, 10) + "feed 3;");
        fed.nights(1);
        fed.mark(3, false);
        fed.nights(5);
        fed.mark(3, true);
        CHECK.is("FED", fed.gone(0, false), 3);
        CHECK.is("what is asked ahead is by the MARK", fed.loss(0, 1), 3);
    }

    /** Rows that are written anew behind a MARK that was gone back to. */
    private static void marksHoldRows() {
        CHECK.sentence("Terms 4: MARKS hold all: each BONE kept, each BITE, the FEUDS of each two");
        StringBuilder text = new StringBuilder();
        for (int f = 0; f < 6; f++) {
            text.append(farm("" + (char) ('a' + f), 9000, f % 2, f % 2 == 0 ? 10 : 0));
            for (int other = 0; other < f; other++) {
                text.append("fence ").append((char) ('a' + f)).append(' ').append((char) ('a' + other)).append(" 1;");
            }
        }
        String tail = "go dogs; tooth a 1 2 3 4; tooth c 4 3 2 1; tooth e 5 5 7 8;";
        WolfHalf x = told(text + tail);
        x.mark(0, false);
        x.seed(5);
        x.nights(60);
        int[] bites = {1, 2, 3, 4, 1, 2, 3, 1};
        for (int wide : bites) {
            x.bite(wide);
        }
        CHECK.is("one", x.mark(1, false), true);
        int[] one = rows(x);
        CHECK.is("back to the beginning", x.mark(0, true), true);
        x.seed(77);
        x.nights(70);
        for (int wide : bites) {
            x.bite(5 - wide);
        }
        CHECK.is("another", x.mark(2, false), true);
        int[] other = rows(x);
        int unlike = 0;
        CHECK.is("back to the one", x.mark(1, true), true);
        int[] again = rows(x);
        CHECK.is("on to the other", x.mark(2, true), true);
        int[] more = rows(x);
        for (int i = 0; i < one.length; i++) {
            CHECK.is("the one " + i, again[i], one[i]);
            CHECK.is("the other " + i, more[i], other[i]);
            unlike += yes(one[i] != other[i]);
        }
        CHECK.is("they are not alike", unlike > 60, true);
    }

    /** BONES, FEUDS and odds; fewer calls than an object has in all. */
    private static int[] rows(WolfHalf x) {
        int[] all = new int[110];
        int n = 0;
        for (int i = 0; i < 64; i++) {
            int at = (i * 28 + i) % 180;
            all[n++] = x.bone(at, 1);
        }
        all[n++] = x.bone(179, 0);
        all[n++] = x.bone(179, 2);
        for (int a = 0; a < 6; a++) {
            for (int b = 0; b < a; b++) {
                all[n++] = x.feuds(a, b);
                all[n++] = x.feuds(b, a);
            }
        }
        for (int f = 0; f < 6; f += 2) {
            all[n++] = x.whose(f, 0);
            all[n++] = x.whose(f, 1);
        }
        all[n++] = x.bones();
        all[n++] = x.count(7);
        return all;
    }

    private static void marksHoldMarks() {
        // as the sentence was read: going back leaves the MARKS themselves as they are
        CHECK.sentence("Terms 4: MARKS 0 to 3 hold all but the TAPE");
        WolfHalf x = told(farm("a", 9, 0, 1));
        x.mark(0, false);
        x.nights(5);
        x.mark(1, false);
        CHECK.is("back", x.mark(0, true), true);
        CHECK.is("on again", x.mark(1, true), true);
        CHECK.is("night 5", x.count(1), 5);
        CHECK.is("and back", x.mark(0, true), true);
        CHECK.is("night 0", x.count(1), 0);
    }
}
