import java.math.BigInteger;

/** Terms 2 of the document, MOONS and NIGHTS: each sentence that names a boundary, and both sides of it. */
public final class NightBoundaryTests extends Telling {
    public static void main(String[] args) {
        moons();
        homes();
        neighbours();
        orderOfWolves();
        fedNoneAtLeast();
        fedNoMoreThanFlock();
        fedNoMoreThanHunger();
        somethingLeft();
        goesAboveZero();
        greatest();
        oneOfEqual();
        halfCutUpwards();
        lessTheDogs();
        takenNoMoreThanFlock();
        aBone();
        leanByHalf();
        elseNone();
        feudByLean();
        feudOfHome();
        growsBehindMoon();
        growsByTenth();
        draws();
        firstDraws();
        keptBones();
        CHECK.close();
    }

    private static void moons() {
        CHECK.sentence("Terms 2: MOON: the number of the NIGHT by 28, cut");
        int[][] due = {{1, 0}, {27, 0}, {28, 1}, {29, 1}, {55, 1}, {56, 2}, {83, 2}, {84, 3}, {111, 3}, {112, 4}, {1000, 35}};
        CHECK.is("at first", new WolfHalf().count(2), 0);
        for (int[] row : due) {
            CHECK.is("behind " + row[0] + " nights", after(row[0], "").count(2), row[1]);
        }
    }

    private static void homes() {
        CHECK.sentence("Terms 2: HOME of a wolf is its FARM; if that shares, the other FARM in odd MOONS");
        String text = farm("a", 900, 0, 9) + farm("b", 900, 0, 8) + farm("c", 900, 0, 7) + "share a c; feed 1;";
        int[][] due = {{0, 0}, {1, 0}, {27, 0}, {28, 2}, {29, 2}, {55, 2}, {56, 0}, {83, 0}, {84, 2}, {111, 2}, {112, 0}};
        for (int[] row : due) {
            WolfHalf x = told(text);
            x.nights(row[0]);
            CHECK.is("HOME behind " + row[0], x.farm(0, 4), row[1]);
            CHECK.is("HOME of what shares nothing", x.farm(1, 4), 1);
            CHECK.is("HOME of the second of a share", x.farm(2, 4), 2);
        }
        // one is fed each night at HOME: c feeds its own wolf, and a's in odd moons
        int[][] fed = {{27, 27, 27}, {28, 28, 28}, {29, 28, 30}, {56, 28, 84}, {57, 29, 85}, {84, 56, 112}, {85, 56, 114}};
        for (int[] row : fed) {
            WolfHalf x = after(row[0], text);
            CHECK.is("fed at a behind " + row[0], x.gone(0, false), row[1]);
            CHECK.is("fed at b behind " + row[0], x.gone(1, false), row[0]);
            CHECK.is("fed at c behind " + row[0], x.gone(2, false), row[2]);
        }
    }

    private static void neighbours() {
        CHECK.sentence("Terms 2: NEIGHBOURS of a FARM: those to which it has a fence, and no PACT");
        String text = farm("a", 9, 0, 0) + farm("b", 9, 0, 0) + farm("c", 9, 0, 0) + farm("d", 9, 0, 0)
            + "fence a b 0; fence c a 99; fence b c 1; pact a c; pact d a;";
        WolfHalf x = told(text);
        int[] due = {2, 5, 2, 0};
        int[] pacts = {12, 0, 1, 1};
        for (int f = 0; f < 4; f++) {
            CHECK.is("neighbours of " + f, x.farm(f, 5), due[f]);
            CHECK.is("pacts of " + f, x.farm(f, 6), pacts[f]);
        }
        CHECK.is("unmade", x.pact(0, 2, false), true);
        CHECK.is("neighbours then", x.farm(0, 5) * 16 + x.farm(2, 5), 6 * 16 + 3);
        CHECK.is("unmade where there is no fence", x.pact(0, 3, false), true);
        CHECK.is("no fence, no neighbour", x.farm(3, 5), 0);
        String go = farm("a", 0, 0, 4) + farm("b", 9, 0, 0) + farm("c", 9, 0, 0);
        CHECK.is("a fence 0 high is one", after(1, go + "fence a b 0;").bones(), 1);
        CHECK.is("a PACT keeps the wolf at HOME", after(1, go + "fence a b 0; pact a b;").bones(), 0);
        CHECK.is("without a fence it stays", after(1, go + "fence b c 0;").bones(), 0);
        // a's wolf at b, in moon 1, goes to b's neighbours: the pact of a does not count
        CHECK.is("NEIGHBOURS of HOME", after(29, go + "fence b c 0; share a b; pact a c;").bone(0, 1), 2);
    }

    private static void orderOfWolves() {
        CHECK.sentence("Terms 2: A NIGHT: each wolf, in order of its FARMS");
        WolfHalf x = after(1, farm("a", 0, 0, 4) + farm("b", 0, 0, 4) + farm("c", 3, 0, 0) + "fence a c 1; fence b c 1;");
        CHECK.is("the first", x.bone(0, 2) * 10 + x.bone(0, 3), 2);
        CHECK.is("the second has what is left", x.bone(1, 2) * 10 + x.bone(1, 3), 11);
        WolfHalf fed = after(1, farm("a", 2, 0, 4) + farm("b", 5, 0, 4) + "fence a b 1; feed 4;");
        // a's wolf is fed 2 and takes 1 of b; b's wolf is fed 4 of the 4 left
        CHECK.is("fed at b behind a's wolf", fed.gone(1, false), 4);
        CHECK.is("b is empty", fed.farm(1, 0), 0);
        WolfHalf last = after(1, farm("a", 0, 0, 0) + farm("b", 0, 0, 0) + farm("c", 0, 0, 0) + farm("d", 0, 0, 0)
            + farm("e", 9, 0, 0) + farm("f", 0, 0, 4) + "fence e f 1;");
        CHECK.is("the sixth wolf goes too", last.bone(0, 2), 5);
        CHECK.is("each once", last.bones(), 1);
    }

    private static int fed(int flock, int hunger, String law) {
        WolfHalf x = after(1, farm("a", flock, 0, hunger) + "feed " + law + ";");
        CHECK.is("fed is gone from the flock, by " + law, flock - x.farm(0, 0), x.gone(0, false));
        return x.gone(0, false);
    }

    private static void fedNoneAtLeast() {
        CHECK.sentence("Terms 2: FED: the E of feed, 0 at least");
        CHECK.is("1", fed(9, 9, "1"), 1);
        CHECK.is("0", fed(9, 9, "0"), 0);
        CHECK.is("-1", fed(9, 9, "0 - 1"), 0);
        CHECK.is("-9999", fed(9, 9, "0 - 9999"), 0);
        CHECK.is("the least int", fed(9, 9, "8192 * 8192 * 32"), 0);
    }

    private static void fedNoMoreThanFlock() {
        CHECK.sentence("Terms 2: FED: no more than the flock there");
        CHECK.is("one more than the flock", fed(4, 9, "5"), 4);
        CHECK.is("the flock", fed(5, 9, "5"), 5);
        CHECK.is("one less than the flock", fed(6, 9, "5"), 5);
        CHECK.is("no flock", fed(0, 9, "5"), 0);
        CHECK.is("the greatest int", fed(5, 9, "8192 * 8192 * 32 - 1"), 5);
    }

    private static void fedNoMoreThanHunger() {
        CHECK.sentence("Terms 2: FED: nor than its HUNGER");
        CHECK.is("one more than the HUNGER", fed(20, 4, "5"), 4);
        CHECK.is("the HUNGER", fed(20, 5, "5"), 5);
        CHECK.is("one less than the HUNGER", fed(20, 6, "5"), 5);
        CHECK.is("HUNGER 99", fed(200, 99, "100"), 99);
        // HUNGER is the wolf's, the flock is HOME's
        WolfHalf x = after(29, farm("a", 0, 0, 7) + farm("b", 5, 0, 0) + "share a b; feed 9 * (night = 28);");
        CHECK.is("no more than HOME's flock", x.gone(1, false), 5);
    }

    private static void somethingLeft() {
        CHECK.sentence("Terms 2: LEFT is its HUNGER less that. If something is LEFT it goes");
        String fork = farm("b", 90, 0, 0) + farm("c", 90, 0, 0) + "fence a b 1; fence a c 1; go 1; feed ";
        CHECK.is("nothing LEFT", after(1, farm("a", 99, 0, 5) + fork + "5;").bones(), 0);
        WolfHalf one = after(1, farm("a", 99, 0, 5) + fork + "4;");
        CHECK.is("one LEFT", one.bones(), 1);
        CHECK.is("half of one, cut upwards", one.bone(0, 3), 1);
        WolfHalf drawn = told(farm("a", 99, 0, 2) + fork + "2 * (night < 2);");
        drawn.seed(1);
        drawn.nights(5);
        // of SEED 1 the first three draws below 2 are 0, 0, 1
        CHECK.is("nothing LEFT draws nothing", drawn.bone(0, 1) * 100 + drawn.bone(1, 1) * 10 + drawn.bone(2, 1), 112);
    }

    private static void goesAboveZero() {
        CHECK.sentence("Terms 2: it goes to the NEIGHBOUR of the greatest E of go, if that is above 0");
        String pair = farm("a", 0, 0, 9) + farm("b", 50, 0, 0) + "fence a b 1; go ";
        CHECK.is("1", after(1, pair + "1;").bones(), 1);
        CHECK.is("0", after(1, pair + "0;").bones(), 0);
        CHECK.is("-1", after(1, pair + "0 - 1;").bones(), 0);
        CHECK.is("flock - 49", after(1, pair + "flock - 49;").bones(), 1);
        CHECK.is("flock - 50", after(1, pair + "flock - 50;").bones(), 0);
        CHECK.is("flock - 51", after(1, pair + "flock - 51;").bones(), 0);
        CHECK.is("the greatest int", after(1, pair + "8192 * 8192 * 32 - 1;").bones(), 1);
        CHECK.is("the least int", after(1, pair + "8192 * 8192 * 32;").bones(), 0);
        // three alike at 0: it does not go, and draws nothing
        WolfHalf x = told(farm("a", 0, 0, 2) + farm("b", 90, 0, 0) + farm("c", 90, 0, 0) + "fence a b 1; fence a c 1; go 0 < lean;");
        x.seed(1);
        x.nights(2);
        CHECK.is("the first draw is of the second night", x.bones(), 1);
        x.nights(4);
        CHECK.is("draws 0, 0, 1 of nights 1, 3, 5", x.bone(0, 1) * 100 + x.bone(1, 1) * 10 + x.bone(2, 1), 112);
    }

    private static int goesOf(int flockB, int flockC, int flockD) {
        WolfHalf x = after(1, farm("a", 0, 0, 2) + farm("b", flockB, 0, 0) + farm("c", flockC, 0, 0) + farm("d", flockD, 0, 0)
            + "fence a d 1; fence a c 1; fence a b 1;");
        return x.bone(0, 1);
    }

    private static void greatest() {
        CHECK.sentence("Terms 2: the NEIGHBOUR of HOME of the greatest E of go");
        CHECK.is("the first", goesOf(9, 8, 8), 1);
        CHECK.is("the second", goesOf(8, 9, 8), 2);
        CHECK.is("the third", goesOf(8, 8, 9), 3);
        CHECK.is("rising", goesOf(7, 8, 9), 3);
        CHECK.is("falling", goesOf(9, 8, 7), 1);
        CHECK.is("one above 0", goesOf(0, 1, 0), 2);
    }

    private static long nextOf(long g) {
        BigInteger next = BigInteger.valueOf(g).multiply(BigInteger.valueOf(1103515245)).add(BigInteger.valueOf(12345));
        return next.mod(BigInteger.valueOf(2147483648L)).longValueExact();
    }

    /** a's wolf, 2 hungry, and so many neighbours alike. */
    private static String star(int many) {
        StringBuilder text = new StringBuilder(farm("a", 0, 0, 2));
        for (int f = 1; f <= many; f++) {
            text.append(farm("" + (char) ('a' + f), 9000, 0, 0)).append("fence a ").append((char) ('a' + f)).append(" 1;");
        }
        return text + "go 1;";
    }

    private static void draws() {
        CHECK.sentence("Terms 2: A DRAW below m: g becomes (g * 1103515245 + 12345) modulo 2147483648 (g is the SEED at first); it is g / 65536, cut, modulo m");
        int[] seeds = {0, 1, 2, 77, 4242, 9998, 9999};
        for (int many = 2; many <= 5; many++) {
            for (int seed : seeds) {
                WolfHalf x = told(star(many));
                x.seed(seed);
                x.nights(60);
                long g = seed;
                for (int i = 0; i < 60; i++) {
                    g = nextOf(g);
                    CHECK.is("of " + many + ", seed " + seed + ", draw " + i, x.bone(i, 1), 1 + g / 65536 % many);
                }
            }
        }
    }

    private static void firstDraws() {
        CHECK.sentence("Terms 2: g is the SEED at first; Terms 1: SEED 0");
        // the draws of SEED 1 are 16838, 5758, 10113, 17515, 31051, those of SEED 0 are 0, 21468, 9988, 22117, 3498
        int[] one = {16838, 5758, 10113, 17515, 31051};
        int[] none = {0, 21468, 9988, 22117, 3498};
        WolfHalf x = told(star(5));
        x.seed(1);
        x.nights(5);
        WolfHalf y = after(5, star(5));
        for (int i = 0; i < 5; i++) {
            CHECK.is("of SEED 1, draw " + i, x.bone(i, 1), 1 + one[i] % 5);
            CHECK.is("of SEED 0, draw " + i, y.bone(i, 1), 1 + none[i] % 5);
        }
    }

    private static void oneOfEqual() {
        CHECK.sentence("Terms 2: of equal ones, if there are more than one, by a DRAW below how many (in order)");
        WolfHalf x = told(star(2));
        x.seed(1);
        x.pact(0, 2, true);
        x.nights(3);
        CHECK.is("only b is there", x.gone(1, true), 3);
        x.pact(0, 2, false);
        x.nights(3);
        // had the one been drawn for, the next three draws would be 1, 1, 1
        CHECK.is("of one nothing is drawn", x.bone(3, 1) * 100 + x.bone(4, 1) * 10 + x.bone(5, 1), 112);
        // of b and d, with c between them: the draw is below 2, in order; of SEED 1 the draws are 0, 0, 1, 1
        WolfHalf gap = told(farm("a", 0, 0, 1) + farm("b", 99, 0, 0) + farm("c", 8, 0, 0) + farm("d", 99, 0, 0)
            + "fence d a 1; fence c a 1; fence b a 1; go 8 < flock;");
        gap.seed(1);
        gap.nights(4);
        CHECK.is("draws 0, 0, 1, 1", gap.bone(0, 1) * 1000 + gap.bone(1, 1) * 100 + gap.bone(2, 1) * 10 + gap.bone(3, 1), 1133);
        // equal ones that are not the greatest do not count
        WolfHalf low = told(farm("a", 0, 0, 1) + farm("b", 50, 0, 0) + farm("c", 50, 0, 0) + farm("d", 99, 0, 0)
            + "fence a b 1; fence a c 1; fence a d 1;");
        low.seed(1);
        low.nights(3);
        CHECK.is("the greatest alone", low.gone(3, true), 3);
        low.pact(0, 3, true);
        low.nights(1);
        // 50 and 50: the first draw; 49 and 50: none
        CHECK.is("the first draw is still to come", low.bone(3, 1), 1);
    }

    private static int taken(int hunger, int dogs, int flock) {
        WolfHalf x = after(1, farm("a", 0, 0, hunger) + farm("b", flock, dogs, 0) + "fence a b 1; go 1;");
        CHECK.is("what is taken is gone from the flock", flock - x.farm(1, 0), x.gone(1, true));
        return x.gone(1, true);
    }

    private static void halfCutUpwards() {
        CHECK.sentence("Terms 2: it takes half of what is LEFT, cut upwards");
        for (int hunger = 1; hunger <= 99; hunger++) {
            CHECK.is("half of " + hunger, taken(hunger, 0, 500), hunger % 2 == 0 ? hunger / 2 : (hunger + 1) / 2);
        }
        CHECK.is("of what is LEFT, not of the HUNGER: 3",
            after(1, farm("a", 9, 0, 9) + farm("b", 50, 0, 0) + "fence a b 1; feed 4;").gone(1, true), 3);
    }

    private static void lessTheDogs() {
        CHECK.sentence("Terms 2: less the dogs there, 0 at least");
        CHECK.is("5 less 0", taken(10, 0, 50), 5);
        CHECK.is("5 less 1", taken(10, 1, 50), 4);
        CHECK.is("5 less 4", taken(10, 4, 50), 1);
        CHECK.is("5 less 5", taken(10, 5, 50), 0);
        CHECK.is("5 less 6", taken(10, 6, 50), 0);
        CHECK.is("1 less 9", taken(1, 9, 50), 0);
        CHECK.is("50 less 9", taken(99, 9, 50), 41);
        CHECK.is("the dogs of the other, not of HOME",
            after(1, farm("a", 0, 9, 10) + farm("b", 50, 2, 0) + "fence a b 1;").gone(1, true), 3);
    }

    private static void takenNoMoreThanFlock() {
        CHECK.sentence("Terms 2: no more than the flock (taken)");
        CHECK.is("one less than half", taken(10, 0, 4), 4);
        CHECK.is("half", taken(10, 0, 5), 5);
        CHECK.is("one more than half", taken(10, 0, 6), 5);
        CHECK.is("none", taken(10, 0, 0), 0);
        CHECK.is("less the dogs first", taken(10, 2, 3), 3);
        CHECK.is("less the dogs, then the flock", taken(10, 2, 2), 2);
    }

    private static void aBone() {
        CHECK.sentence("Terms 2: a BONE, if it is more than 0");
        String text = farm("a", 0, 0, 10) + "fence a b 1; go 1;";
        for (int dogs = 3; dogs <= 6; dogs++) {
            WolfHalf x = after(1, farm("b", 50, dogs, 0) + text);
            CHECK.is("bones of 5 less " + dogs, x.bones(), yes(dogs < 5));
        }
        CHECK.is("of a flock of 1", after(1, farm("b", 1, 0, 0) + text).bones(), 1);
        CHECK.is("of no flock", after(1, farm("b", 0, 0, 0) + text).bones(), 0);
        WolfHalf fed = after(1, farm("a", 9, 0, 9) + "feed 9;");
        CHECK.is("what is FED is no BONE", fed.bones(), 0);
    }

    /** Lean behind one night: HUNGER, and what it is fed; it is not going anywhere. */
    private static int leanFed(int hunger, int fed) {
        return after(1, farm("a", 99, 0, hunger) + "feed " + fed + ";").farm(0, 3);
    }

    private static void leanByHalf() {
        CHECK.sentence("Terms 2: If FED and taken, twice, are less than its HUNGER it is lean one NIGHT more");
        CHECK.is("4 of 10", leanFed(10, 4), 1);
        CHECK.is("5 of 10", leanFed(10, 5), 0);
        CHECK.is("5 of 11", leanFed(11, 5), 1);
        CHECK.is("6 of 11", leanFed(11, 6), 0);
        CHECK.is("0 of 1", leanFed(1, 0), 1);
        CHECK.is("1 of 1", leanFed(1, 1), 0);
        CHECK.is("0 of 2", leanFed(2, 0), 1);
        CHECK.is("1 of 2", leanFed(2, 1), 0);
        CHECK.is("49 of 99", leanFed(99, 49), 1);
        CHECK.is("50 of 99", leanFed(99, 50), 0);
        for (int dogs = 0; dogs <= 5; dogs++) {
            String pair = farm("b", 50, dogs, 0) + "fence a b 1;";
            CHECK.is("5 taken of 10, less " + dogs, after(1, farm("a", 0, 0, 10) + pair).farm(0, 3), yes(dogs > 0));
            // LEFT is 6, half of that 3
            CHECK.is("4 fed and 3 taken of 10, less " + dogs, after(1, farm("a", 9, 0, 10) + pair + "feed 4;").farm(0, 3), yes(dogs > 2));
        }
    }

    private static void elseNone() {
        CHECK.sentence("Terms 2: it is lean one NIGHT more in a row, else none");
        String text = farm("a", 99, 0, 10) + "feed 4 + (night = 2) + 9 * (night = 5);";
        int[] due = {1, 2, 0, 1, 2, 0, 1, 2, 3, 4};
        for (int nights = 1; nights <= due.length; nights++) {
            CHECK.is("lean behind " + nights, after(nights, text).farm(0, 3), due[nights - 1]);
        }
        CHECK.is("lean on where it does not go", after(1000, farm("a", 0, 0, 10)).farm(0, 3), 1000);
    }

    private static void feudByLean() {
        CHECK.sentence("Terms 2: if it went, and is lean 3 NIGHTS or more, one FEUD more, and it is lean none");
        String text = farm("a", 0, 0, 10) + farm("b", 900, 1, 0) + "fence a b 1;";
        int[] lean = {1, 2, 0, 1, 2, 0, 1};
        int[] feuds = {0, 0, 1, 1, 1, 2, 2};
        for (int nights = 1; nights <= lean.length; nights++) {
            WolfHalf x = after(nights, text);
            CHECK.is("lean behind " + nights, x.farm(0, 3), lean[nights - 1]);
            CHECK.is("feuds behind " + nights, x.feuds(0, 1), feuds[nights - 1]);
        }
        CHECK.sentence("Terms 2: if it went, and is lean 3 NIGHTS or more: more than 3");
        for (int wait = 0; wait <= 6; wait++) {
            WolfHalf x = after(wait + 1, text + "go " + wait + " = lean;");
            CHECK.is("it went when lean " + wait + ": feuds", x.count(7), yes(wait >= 2));
            CHECK.is("it went when lean " + wait + ": lean", x.farm(0, 3), wait >= 2 ? 0 : wait + 1);
        }
        CHECK.sentence("Terms 2: if it went (a FEUD)");
        CHECK.is("it did not go: no feud", after(9, text + "go 0;").count(7), 0);
        CHECK.is("it did not go: lean on", after(9, text + "go 0;").farm(0, 3), 9);
        CHECK.is("it went and had nothing: a feud", after(3, farm("a", 0, 0, 10) + farm("b", 9, 9, 0) + "fence a b 1;").count(7), 1);
        CHECK.is("not lean: no feud", after(9, farm("a", 0, 0, 10) + farm("b", 900, 0, 0) + "fence a b 1;").count(7), 0);
        WolfHalf sated = after(3, farm("a", 0, 0, 10) + farm("b", 900, 0, 0) + "fence a b 1; go lean = 2;");
        CHECK.is("sated in the third night: no feud", sated.count(7), 0);
        CHECK.is("sated in the third night: lean none", sated.farm(0, 3), 0);
    }

    private static void feudOfHome() {
        CHECK.sentence("Terms 2: HOME and that NEIGHBOUR have one FEUD more");
        String text = farm("a", 0, 0, 10) + farm("b", 0, 0, 0) + farm("c", 900, 5, 0) + "share a b; fence b c 1;";
        WolfHalf x = after(28, text);
        CHECK.is("lean a whole MOON", x.farm(0, 3), 28);
        x.nights(1);
        CHECK.is("HOME, in MOON 1", x.feuds(1, 2), 1);
        CHECK.is("either way", x.feuds(2, 1), 1);
        CHECK.is("not its FARM", x.feuds(0, 2), 0);
        CHECK.is("in all", x.count(7), 1);
        CHECK.is("lean none", x.farm(0, 3), 0);
    }

    private static void growsBehindMoon() {
        CHECK.sentence("Terms 2: Behind each NIGHT whose number and 1 is a multiple of 28 each flock grows");
        int[][] due = {{1, 100}, {26, 100}, {27, 100}, {28, 110}, {29, 110}, {54, 110}, {55, 110}, {56, 121}, {57, 121}, {84, 133}};
        for (int[] row : due) {
            CHECK.is("behind " + row[0], after(row[0], farm("a", 100, 0, 0)).farm(0, 0), row[1]);
        }
        WolfHalf x = after(27, farm("a", 100, 0, 0));
        x.nights(1);
        CHECK.is("night 27 alone", x.farm(0, 0), 110);
        x.nights(1);
        CHECK.is("night 28 alone", x.farm(0, 0), 110);
        // behind the NIGHT: a tenth of what that NIGHT has left
        CHECK.is("92 and 9", after(28, farm("a", 100, 0, 8) + "feed 8 * (night = 27);").farm(0, 0), 101);
        CHECK.is("90 and 9, 9 more are gone", after(29, farm("a", 90, 0, 9) + "feed 9 * (night = 28);").farm(0, 0), 90);
    }

    private static void growsByTenth() {
        CHECK.sentence("Terms 2: each flock grows by a tenth, cut (9,999 at most)");
        int[][] due = {{0, 0}, {1, 1}, {9, 9}, {10, 11}, {11, 12}, {19, 20}, {20, 22}, {9089, 9997}, {9090, 9999}, {9091, 9999},
            {9092, 9999}, {9100, 9999}, {9998, 9999}, {9999, 9999}};
        for (int[] row : due) {
            CHECK.is("of " + row[0], after(28, farm("a", row[0], 0, 0)).farm(0, 0), row[1]);
        }
        StringBuilder six = new StringBuilder();
        for (int f = 0; f < 6; f++) {
            six.append(farm("" + (char) ('a' + f), 10 + 10 * f, 0, 0));
        }
        WolfHalf x = after(28, six.toString());
        for (int f = 0; f < 6; f++) {
            CHECK.is("each flock " + f, x.farm(f, 0), 11 + 11 * f);
        }
    }

    private static void keptBones() {
        CHECK.sentence("Terms 2: BONES are numbered; the first 200 are kept");
        String text = farm("a", 0, 0, 1) + farm("b", 999, 0, 0) + "fence a b 1;";
        WolfHalf x = after(199, text);
        CHECK.is("199", x.bones(), 199);
        CHECK.is("bone 198", x.bone(198, 0), 198);
        CHECK.noSuch("bone 199 is not there yet", () -> x.bone(199, 0));
        x.nights(1);
        CHECK.is("bone 199", x.bone(199, 0), 199);
        CHECK.noSuch("bone 200 is not there yet", () -> x.bone(200, 0));
        x.nights(1);
        CHECK.is("201 are there", x.bones(), 201);
        CHECK.is("bone 199 stays", x.bone(199, 0), 199);
        CHECK.is("bone 0 stays", x.bone(0, 0), 0);
        CHECK.noSuch("bone 200 is not kept", () -> x.bone(200, 0));
        x.nights(300);
        CHECK.is("501 are there", x.bones(), 501);
        CHECK.noSuch("bone 500 is not kept", () -> x.bone(500, 0));
        CHECK.is("bone 100", x.bone(100, 0), 100);
    }
}
