/** Each promise of the document by hand: what it answers, its edges, and what it refuses. */
public final class PromiseTests extends Telling {
    public static void main(String[] args) {
        promise1();
        promise2();
        promise3Faults();
        promise3Farms();
        promise3Laws();
        promise3Settles();
        promise3Reckons();
        promise4();
        promise5();
        promise6();
        promise7();
        promise7Lean();
        promise7Laws();
        promise7Moons();
        promise8();
        promise9And10();
        promise11();
        promise12();
        promise13();
        promise14To16();
        promise17();
        promise18And19();
        promise20();
        promise21();
        promise22();
        promise23();
        promise24();
        promise25();
        CHECK.close();
    }

    private static void promise1() {
        WolfHalf x = new WolfHalf();
        CHECK.is("NONE", WolfHalf.NONE, -1);
        for (int what = 0; what <= 8; what++) {
            CHECK.is("new: count " + what, x.count(what), 0);
        }
        CHECK.is("new: farm", x.farm(0, 0), NONE);
        CHECK.is("new: bones", x.bones(), 0);
        CHECK.is("new: rests", x.rests(1), 1);
        CHECK.is("new: rest", x.rest(1, 0), 0);
        CHECK.is("new: played, row", x.played(0, 1, 0), 0);
        CHECK.is("new: played, rounds", x.played(0, 1, 1), 1);
        CHECK.is("new: played from no row", x.played(1, 1, 0), NONE);
        CHECK.is("new: level", x.level(0, 0, 1), NONE);
        CHECK.is("new: firm", x.firm(28), 1);
        CHECK.is("new: group", x.group(1, 0, 0), NONE);
        CHECK.is("new: night", x.nights(1000), 1000);
        CHECK.is("new: moon", x.count(2), 35);
    }

    private static void promise2() {
        WolfHalf x = new WolfHalf();
        CHECK.is("feed nothing", x.feed(0, 0, 0), 0);
        CHECK.is("feed 24", x.feed(Check.eight("abcdefgh", 0), Check.eight("ijklmnop", 0), Check.eight("qrstuvwx", 0)), 24);
        CHECK.is("feed others", x.feed(0x7F80FF091F0B0DE9L, -1, 0), 24);
        CHECK.is("feed edges", x.feed(0x0A207E0000000000L, 0, 0x20L), 28);
        CHECK.is("feed does not read", x.count(8), 28);
        for (int i = 0; i < 41; i++) {
            int before = x.count(8);
            CHECK.is("feed on", x.feed(0x2020202020202020L, 0x2020202020202020L, 0x2020202020202020L), Math.min(1000, before + 24));
        }
        CHECK.is("feed full", x.feed(0x41L, 0x41L, 0x41L), 1000);
        CHECK.is("the order of bytes and longs", Check.mountain(new WolfHalf(), "go 1 2 34567"), 1 + 16 * 5);
        WolfHalf full = new WolfHalf();
        Check.tell(full, " ".repeat(995) + "feed 1;");
        CHECK.is("beyond 1,000 is left out", full.mountain(), 1 + 16 * 1000);
    }

    private static void promise3Faults() {
        fault("", 0, 0);
        fault(" \n ", 0, 0);
        fault("wolves", 1, 0);
        fault("?", 1, 0);
        fault(" Farm", 1, 1);
        fault("farm", 1, 4);
        fault("farm ", 1, 5);
        faultAtLast("farm abcdefghi", 1);
        faultAtLast("farm 1", 1);
        for (String word : "farm flock dogs wolf fence pact share tooth feed go not and or".split(" ")) {
            faultAtLast("farm " + word, 1);
        }
        for (String word : "hunger night lean abcdefgh a".split(" ")) {
            told("farm " + word + " flock 0 dogs 0 wolf 0;");
        }
        faultAtLast("farm a dogs", 1);
        faultAtLast("farm a flock dogs", 1);
        faultAtLast("farm a flock 12345", 1);
        faultAtLast("farm a flock 9999 dogs 10", 4);
        faultAtLast("farm a flock 1 dogs 9 wolf 100", 4);
        faultAtLast("farm a flock 1 wolf", 1);
        fault("farm a flock 1 dogs 9 wolf 99", 1, 29);
        faultAtLast("farm a flock 1 dogs 9 wolf 9 farm", 1);
        told("farm a flock 0009dogs 9wolf 99;");
        told("farm\na\nflock9dogs9wolf9;");
        String two = farm("a", 1, 1, 1) + farm("b", 1, 1, 1);
        faultAtLast(two + "farm a", 3);
        faultAtLast(two + "fence c", 2);
        faultAtLast(two + "fence flock", 1);
        faultAtLast(two + "fence 5", 1);
        faultAtLast(two + "fence a c", 2);
        faultAtLast(two + "fence a a", 3);
        faultAtLast(two + "fence a and", 1);
        faultAtLast(two + "fence a b 100", 4);
        faultAtLast(two + "fence a b ;", 1);
        faultAtLast(two + "fence a b 99; fence a b", 3);
        faultAtLast(two + "fence a b 99; fence b a", 3);
        faultAtLast(two + "pact c", 2);
        faultAtLast(two + "pact b b", 3);
        faultAtLast(two + "pact a b; pact b a", 3);
        faultAtLast(two + "pact a b 1", 1);
        told(two + "pact a b; fence b a 0;");
        faultAtLast(two + "share c", 2);
        faultAtLast(two + "share a c", 2);
        faultAtLast(two + "share a a", 3);
        faultAtLast(two + "share a b; share a", 3);
        told(two + "share a b; share b a;");
        faultAtLast(two + "tooth c", 2);
        faultAtLast(two + "tooth a 10", 4);
        faultAtLast(two + "tooth a 0 0 0 0", 4);
        faultAtLast(two + "tooth a 0 0 0 10", 4);
        faultAtLast(two + "tooth a 0 0 0 ;", 1);
        faultAtLast(two + "tooth a 0 0 0 1; tooth a", 3);
        told(two + "tooth a 1 0 0 0; tooth b 0 0 0 9;");
    }

    private static void promise3Farms() {
        StringBuilder six = new StringBuilder();
        for (char name = 'a'; name <= 'f'; name++) {
            six.append(farm("" + name, 1, 1, 1));
        }
        faultAtLast(six + "farm", 5);
        fault(six + "farm flock", 5, six.length());
        told(six.toString());
    }

    private static void promise3Laws() {
        faultAtLast("feed ;", 1);
        fault("feed 1", 1, 6);
        faultAtLast("feed 1; feed", 3);
        faultAtLast("go 1; go", 3);
        told("feed 1; go 1;");
        for (String word : "fence lean wolf and ann".split(" ")) {
            faultAtLast("feed " + word, 1);
        }
        for (String word : "night wolf or not; ann".split(" ")) {
            fault("go " + word, 1, word.equals("not;") ? 6 : 3);
        }
        told("feed flock + dogs + hunger + night;");
        told("go flock + dogs + fence + hunger + lean;");
        faultAtLast("feed 1 < 2 <", 1);
        faultAtLast("feed 1 = 2 <", 1);
        faultAtLast("feed 1 < 2 =", 1);
        faultAtLast("feed 1 < =", 1);
        faultAtLast("feed 1 2", 1);
        faultAtLast("feed 12345", 1);
        faultAtLast("feed -", 1);
        faultAtLast("feed 1 + ;", 1);
        faultAtLast("feed 1 )", 1);
        faultAtLast("feed ( 1 ;", 1);
        faultAtLast("feed ( )", 1);
        faultAtLast("feed 1 not", 1);
        told("feed ( 1 < 2 ) < ( 3 = 4 ) ;");
        told("feed not not not not 1;");
        faultAtLast("feed not not not not not 1", 5);
        faultAtLast("feed not not not not not flock", 5);
        faultAtLast("feed not not not not not not", 5);
        faultAtLast("feed not not not not not (", 5);
        faultAtLast("feed not not not not not lean", 1);
        faultAtLast("feed not not not not not ;", 1);
        told("feed ((((1))));");
        faultAtLast("feed ( ( ( ( ( 1", 5);
        faultAtLast("feed ( not ( not ( 1", 5);
        faultAtLast("feed ( ( ( ( ( )", 1);
        told("feed ((((1)))) + ((((1)))) * not (not (1));");
    }

    /** Without a fault all starts anew; with one all stays but the tape. */
    private static void promise3Settles() {
        String text = farm("a", 30, 0, 10) + farm("b", 30, 1, 0) + "fence a b 1;";
        WolfHalf x = told(text);
        x.seed(9);
        x.nights(3);
        x.bite(1);
        x.mark(2, false);
        CHECK.is("a fault", Check.mountain(x, "farm farm"), 1 + 16 * 5);
        CHECK.is("night stays", x.count(1), 3);
        CHECK.is("farms stay", x.count(0), 2);
        CHECK.is("feuds stay", x.count(7), 1);
        CHECK.is("bites stay", x.count(6), 1);
        CHECK.is("bones stay", x.bones(), 3);
        CHECK.is("loss stays", x.loss(1, 1), 4);
        CHECK.is("mark stays", x.mark(2, true), true);
        CHECK.is("once more", Check.mountain(x, text), 0);
        CHECK.is("night 0", x.count(1), 0);
        CHECK.is("no feud", x.count(7), 0);
        CHECK.is("no feud of two", x.feuds(0, 1), 0);
        CHECK.is("no bite", x.count(6), 0);
        CHECK.is("no bone", x.bones(), 0);
        CHECK.noSuch("no bone 0", () -> x.bone(0, 0));
        CHECK.is("no mark", x.mark(2, true), false);
        CHECK.is("flock as told", x.farm(1, 0), 30);
        CHECK.is("nothing gone", x.gone(1, true), 0);
        CHECK.is("an empty tape is a mountain too", x.mountain(), 0);
        CHECK.is("without farms", x.count(0), 0);
        CHECK.is("without fences", x.count(3), 0);
        CHECK.is("feed and go are not kept", Check.mountain(told("feed 9; go 1;"), farm("a", 9, 0, 9)), 0);
    }

    private static void promise3Reckons() {
        String[] laws = {
            "7", "0", "1 + 2 * 3", "(1 + 2) * 3", "10 - 3 - 2", "10-(3-2)", "not 0", "not 7", "not 0 * 5", "not (0 * 5)",
            "2 < 3", "3 < 3", "4 < 3", "3 = 3", "3 = 4", "1 or 0 and 0", "0 and 0 or 7", "7 and 9", "0 or 9", "1 + 1 < 3",
            "5 * (2 < 3)", "flock - 4990", "dogs", "hunger - 1", "night", "3 - 5", "0 < 3 - 5", "0 < 9999 * 9999 * 9999",
            "not not 5 + 1", "1 < 2 and 3 < 2", "1 < 2 or 3 < 2", "9999", "2 * 3 * 4", "20 - 2 * 3 + 1", "1 = 1 + 0"
        };
        int[] due = {
            7, 0, 7, 9, 5, 9, 1, 0, 5, 1,
            1, 0, 0, 1, 0, 0, 1, 1, 1, 1,
            5, 10, 3, 98, 0, 0, 0, 0 < 9999 * 9999 * 9999 ? 1 : 0,
            2, 0, 1, 99, 24, 15, 1
        };
        for (int i = 0; i < laws.length; i++) {
            CHECK.is("fed by " + laws[i], fedBy(laws[i]), due[i]);
        }
        WolfHalf long1 = told(farm("a", 99, 0, 99) + "feed " + "1+".repeat(40) + "1" + "*1".repeat(400) + ";");
        long1.nights(1);
        CHECK.is("fed by a long law", long1.gone(0, false), 41);
    }

    private static final String VALE = farm("a", 40, 0, 12) + farm("b", 70, 2, 0) + farm("c", 9999, 9, 99)
        + "fence b a 5; fence b c 99; fence a c 0; pact c a; share a b; tooth b 0 9 2 1;";

    private static void promise4() {
        WolfHalf x = told(VALE);
        int[][] due = {{40, 0, 12, 0, 0, 2, 4}, {70, 2, 0, 0, 1, 5, 0}, {9999, 9, 99, 0, 2, 2, 1}};
        for (int f = 0; f < 3; f++) {
            for (int what = 0; what < 7; what++) {
                CHECK.is("farm " + f + " " + what, x.farm(f, what), due[f][what]);
            }
        }
        CHECK.is("farm 3", x.farm(3, 0), NONE);
        CHECK.is("farm -1", x.farm(-1, 0), NONE);
        CHECK.is("what 7", x.farm(0, 7), NONE);
        CHECK.is("what -1", x.farm(0, -1), NONE);
        x.nights(27);
        CHECK.is("home in moon 0", x.farm(0, 4), 0);
        x.nights(1);
        CHECK.is("home in moon 1", x.farm(0, 4), 1);
        CHECK.is("the other one's home in moon 1", x.farm(1, 4), 1);
        x.nights(28);
        CHECK.is("home in moon 2", x.farm(0, 4), 0);
        WolfHalf turns = told(farm("a", 1, 0, 1) + farm("b", 1, 0, 1) + farm("c", 1, 0, 1) + "share a b; share b a; share c a;");
        turns.nights(28);
        CHECK.is("a at b", turns.farm(0, 4), 1);
        CHECK.is("b at a", turns.farm(1, 4), 0);
        CHECK.is("c at a", turns.farm(2, 4), 0);
    }

    private static void promise5() {
        WolfHalf x = told(VALE);
        int[] due = {NONE, 0, 9, 2, 1, NONE};
        for (int wide = 0; wide <= 5; wide++) {
            CHECK.is("tooth 1 " + wide, x.tooth(1, wide), due[wide]);
            CHECK.is("tooth 0 " + wide, x.tooth(0, wide), wide >= 1 && wide <= 4 ? 1 : NONE);
        }
        CHECK.is("tooth of no farm", x.tooth(3, 1), NONE);
        CHECK.is("tooth of farm -1", x.tooth(-1, 1), NONE);
    }

    /** Two neighbours alike: a draw below 2 each night, as long as they are alike. */
    private static final String FORK = farm("a", 0, 0, 2) + farm("b", 9000, 0, 0) + farm("c", 9000, 0, 0)
        + "fence a b 1; fence a c 1; go 1;";

    private static void promise6() {
        WolfHalf x = told(FORK);
        CHECK.is("seed -1", x.seed(-1), false);
        CHECK.is("seed 10000", x.seed(10000), false);
        CHECK.is("seed 9999", x.seed(9999), true);
        CHECK.is("seed 0", x.seed(0), true);
        CHECK.is("seed 1", x.seed(1), true);
        CHECK.is("refused", x.seed(-5), false);
        // of SEED 1 the draws are 16838, 5758, 10113, 17515, 31051, 5627 before they are cut to m
        int[] due = {1, 1, 2, 2, 2, 2};
        x.nights(6);
        for (int i = 0; i < 6; i++) {
            CHECK.is("drawn " + i, x.bone(i, 1), due[i]);
        }
        WolfHalf three = told(farm("a", 0, 0, 2) + farm("b", 9, 0, 0) + farm("c", 9, 0, 0) + farm("d", 9, 0, 0)
            + "fence a b 1; fence a c 1; fence d a 1; go 1;");
        three.seed(1);
        three.nights(4);
        int[] dueOfThree = {16838 % 3 + 1, 5758 % 3 + 1, 10113 % 3 + 1, 17515 % 3 + 1};
        for (int i = 0; i < 4; i++) {
            CHECK.is("drawn of three " + i, three.bone(i, 1), dueOfThree[i]);
        }
        WolfHalf unlike = told(farm("a", 0, 0, 2) + farm("b", 9, 0, 0) + farm("c", 8, 0, 0) + "fence a b 1; fence a c 1;");
        unlike.seed(1);
        unlike.nights(3);
        // 9 and 8: no draw; 8 and 8: the first draw, 16838, is even; 7 and 8: no draw
        CHECK.is("the greater flock", unlike.bone(0, 1), 1);
        CHECK.is("one of equal flocks", unlike.bone(1, 1), 1);
        CHECK.is("the greater flock again", unlike.bone(2, 1), 2);
    }

    private static void promise7() {
        WolfHalf x = told(farm("a", 20, 0, 9) + farm("b", 10, 1, 7) + "fence a b 3; feed 2;");
        CHECK.is("nights 0", x.nights(0), NONE);
        CHECK.is("nights 1001", x.nights(1001), NONE);
        CHECK.is("nights -1", x.nights(-1), NONE);
        CHECK.is("nights 1", x.nights(1), 1);
        // a's wolf: fed 2 of 20, left 7, takes 4 - 1 of 10; b's: fed 2 of 7, left 5, takes 3 of 18
        CHECK.is("a's flock", x.farm(0, 0), 15);
        CHECK.is("b's flock", x.farm(1, 0), 5);
        CHECK.is("fed at a", x.gone(0, false), 2);
        CHECK.is("taken of a", x.gone(0, true), 3);
        CHECK.is("fed at b", x.gone(1, false), 2);
        CHECK.is("taken of b", x.gone(1, true), 3);
        CHECK.is("a's wolf had twice 5 of 9", x.farm(0, 3), 0);
        CHECK.is("b's wolf had twice 5 of 7", x.farm(1, 3), 0);
        CHECK.is("nights 1000", x.nights(1000), 1001);
        CHECK.is("flock a", x.farm(0, 0), 0);
        CHECK.is("flock b", x.farm(1, 0), 0);
        WolfHalf few = told(farm("a", 3, 0, 8) + farm("b", 1, 0, 0) + "fence a b 1; feed 5;");
        few.nights(1);
        CHECK.is("no more than the flock is fed", few.gone(0, false), 3);
        CHECK.is("no more than the flock is taken", few.gone(1, true), 1);
        WolfHalf sated = told(farm("a", 9, 0, 3) + farm("b", 9, 0, 0) + "fence a b 1; feed 5;");
        sated.nights(1);
        CHECK.is("no more than the hunger", sated.gone(0, false), 3);
        CHECK.is("nothing left: it does not go", sated.bones(), 0);
        WolfHalf undrawn = told(farm("a", 4, 0, 2) + farm("b", 99, 0, 0) + farm("c", 99, 0, 0) + "fence a b 1; fence a c 1; go 1; feed 2 * (night < 2);");
        undrawn.seed(1);
        undrawn.nights(5);
        // the first three draws of SEED 1 are even, even, odd
        CHECK.is("nothing left: nothing is drawn, first", undrawn.bone(0, 1), 1);
        CHECK.is("nothing left: nothing is drawn, third", undrawn.bone(2, 1), 2);
    }

    private static void promise7Lean() {
        // fed and taken 5 of 10 are not lean; with a dog there 4 are
        WolfHalf fair = told(farm("a", 0, 0, 10) + farm("b", 99, 0, 0) + "fence a b 3;");
        fair.nights(1);
        CHECK.is("half is enough", fair.farm(0, 3), 0);
        WolfHalf x = told(farm("a", 0, 0, 10) + farm("b", 99, 1, 0) + "fence a b 3;");
        x.nights(2);
        CHECK.is("lean 2", x.farm(0, 3), 2);
        CHECK.is("no feud yet", x.feuds(0, 1), 0);
        x.nights(1);
        CHECK.is("a feud behind 3", x.feuds(0, 1), 1);
        CHECK.is("lean none then", x.farm(0, 3), 0);
        x.nights(6);
        CHECK.is("feuds", x.feuds(1, 0), 3);
        WolfHalf dogs = told(farm("a", 0, 0, 10) + farm("b", 99, 9, 0) + "fence a b 3;");
        dogs.nights(3);
        CHECK.is("it went and took nothing", dogs.bones(), 0);
        CHECK.is("a feud for nothing", dogs.feuds(0, 1), 1);
        WolfHalf alone = told(farm("a", 0, 0, 10) + farm("b", 0, 0, 0) + "fence a b 3;");
        alone.nights(7);
        CHECK.is("it did not go: lean on", alone.farm(0, 3), 7);
        CHECK.is("and no feud", alone.count(7), 0);
        WolfHalf sated = told(farm("a", 0, 0, 10) + farm("b", 4, 0, 0) + "fence a b 1; go lean = 2;");
        sated.nights(2);
        CHECK.is("lean 2 before it goes", sated.farm(0, 3), 2);
        sated.nights(1);
        CHECK.is("it goes then", sated.gone(1, true), 4);
        CHECK.is("lean a third night", sated.feuds(0, 1), 1);
        // in moon 1 a's wolf is at b: the feud is b's and c's
        WolfHalf shared = told(farm("a", 0, 0, 10) + farm("b", 0, 0, 0) + farm("c", 99, 9, 0) + "share a b; fence b c 1;");
        shared.nights(28);
        CHECK.is("lean all the moon", shared.farm(0, 3), 28);
        shared.nights(1);
        CHECK.is("the feud of its home", shared.feuds(1, 2), 1);
        CHECK.is("not of its farm", shared.feuds(0, 2), 0);
    }

    private static int goesTo(String law, String more) {
        WolfHalf x = told(farm("a", 0, 0, 10) + farm("b", 50, 3, 0) + farm("c", 40, 1, 0) + "fence a b 3; fence c a 7; go " + law + "; " + more);
        x.nights(1);
        return x.bones() == 0 ? NONE : x.bone(0, 1);
    }

    private static void promise7Laws() {
        CHECK.is("go flock", goesTo("flock", ""), 1);
        CHECK.is("go 100 - flock", goesTo("100 - flock", ""), 2);
        CHECK.is("go dogs", goesTo("dogs", ""), 1);
        CHECK.is("go fence", goesTo("fence", ""), 2);
        CHECK.is("go 10 - fence", goesTo("10 - fence", ""), 1);
        CHECK.is("go 0", goesTo("0", ""), NONE);
        CHECK.is("go below 0", goesTo("0 - flock", ""), NONE);
        CHECK.is("go where above 0", goesTo("flock - 40", ""), 1);
        CHECK.is("go by hunger", goesTo("(hunger = 10) * (41 - flock)", ""), 2);
        CHECK.is("go by what is left", goesTo("(hunger = 10) * (41 - flock)", "feed 1;"), 2);
        WolfHalf left = told(farm("a", 9, 0, 10) + farm("b", 50, 0, 0) + "fence a b 3; go hunger = 9; feed 1;");
        left.nights(1);
        CHECK.is("hunger in go is what is left", left.gone(1, true), 5);
        CHECK.is("not behind a pact", goesTo("flock", "pact a b;"), 2);
        CHECK.is("no way", goesTo("flock", "pact a b; pact c a;"), NONE);
        WolfHalf ways = told(farm("a", 9, 0, 5) + farm("b", 9, 0, 5) + "fence a b 0; pact a b;");
        ways.nights(3);
        CHECK.is("a pact keeps both", ways.farm(0, 0) + ways.farm(1, 0), 18);
        WolfHalf night = told(farm("a", 90, 0, 9) + "feed night;");
        night.nights(4);
        CHECK.is("fed by the night", night.gone(0, false), 6);
    }

    private static void promise7Moons() {
        WolfHalf x = told(farm("a", 100, 0, 0) + farm("b", 9500, 0, 0) + farm("c", 19, 0, 0) + farm("d", 9, 0, 0));
        x.nights(27);
        CHECK.is("not before the moon ends", x.farm(0, 0), 100);
        x.nights(1);
        CHECK.is("a tenth", x.farm(0, 0), 110);
        CHECK.is("9,999 at most", x.farm(1, 0), 9999);
        CHECK.is("a tenth, cut", x.farm(2, 0), 20);
        CHECK.is("no tenth", x.farm(3, 0), 9);
        x.nights(28);
        CHECK.is("again", x.farm(0, 0), 121);
        CHECK.is("still", x.farm(1, 0), 9999);
        WolfHalf shared = told(farm("a", 100, 0, 4) + farm("b", 100, 0, 0) + "share a b; feed 1;");
        shared.nights(28);
        CHECK.is("fed at a", shared.gone(0, false), 28);
        shared.nights(2);
        CHECK.is("fed at b in moon 1", shared.gone(1, false), 2);
        shared.nights(26);
        shared.nights(1);
        CHECK.is("fed at a in moon 2", shared.gone(0, false), 29);
        // the last night of a moon is before the growth: 72 of 100, then a tenth of 72
        CHECK.is("it grows behind the night", told(farm("a", 100, 0, 1) + "feed 1;").loss(0, 28), 28);
        WolfHalf grown = told(farm("a", 100, 0, 1) + "feed 1;");
        grown.nights(28);
        CHECK.is("72 and 7", grown.farm(0, 0), 79);
    }

    private static void promise8() {
        WolfHalf x = told(VALE);
        CHECK.is("it is so", x.pact(0, 2, true), false);
        CHECK.is("it is not so", x.pact(0, 1, false), false);
        CHECK.is("made", x.pact(1, 0, true), true);
        CHECK.is("pacts of a", x.farm(0, 6), 6);
        CHECK.is("pacts of b", x.farm(1, 6), 1);
        CHECK.is("no neighbour of a", x.farm(0, 5), 0);
        CHECK.is("unmade", x.pact(2, 0, false), true);
        CHECK.is("neighbours of a", x.farm(0, 5), 4);
        CHECK.is("pacts", x.count(4), 1);
        CHECK.is("with itself", x.pact(1, 1, true), false);
        CHECK.is("no farm 3", x.pact(0, 3, true), false);
        CHECK.is("no farm -1", x.pact(-1, 0, true), false);
        CHECK.is("no pact with itself unmade", x.pact(0, 0, false), false);
    }

    private static void promise9And10() {
        WolfHalf x = told(farm("a", 9999, 0, 0) + farm("b", 0, 0, 2) + "fence a b 1;");
        CHECK.noSuch("no bone yet", () -> x.bone(0, 0));
        x.nights(1);
        CHECK.is("bones", x.bones(), 1);
        int[] due = {0, 0, 1, 1};
        for (int what = 0; what < 4; what++) {
            CHECK.is("bone 0 " + what, x.bone(0, what), due[what]);
        }
        CHECK.noSuch("bone 1", () -> x.bone(1, 0));
        CHECK.noSuch("bone -1", () -> x.bone(-1, 0));
        CHECK.noSuch("what 4", () -> x.bone(0, 4));
        CHECK.noSuch("what -1", () -> x.bone(0, -1));
        x.nights(299);
        CHECK.is("bones beyond 200", x.bones(), 300);
        CHECK.is("the last kept", x.bone(199, 0), 199);
        CHECK.noSuch("bone 200 is not kept", () -> x.bone(200, 0));
        // whose wolf: its farm's, wherever its home is
        WolfHalf shared = told(farm("a", 0, 0, 4) + farm("b", 0, 0, 0) + farm("c", 50, 0, 0) + "share a b; fence b c 1;");
        shared.nights(29);
        CHECK.is("night", shared.bone(0, 0), 28);
        CHECK.is("whose flock", shared.bone(0, 1), 2);
        CHECK.is("whose wolf", shared.bone(0, 2), 0);
        CHECK.is("how many", shared.bone(0, 3), 2);
    }

    private static void promise11() {
        WolfHalf x = told(farm("a", 0, 0, 10) + farm("b", 99, 1, 0) + farm("c", 1, 0, 0) + "fence a b 3;");
        x.nights(3);
        CHECK.is("feuds", x.feuds(0, 1), 1);
        CHECK.is("feuds turned", x.feuds(1, 0), 1);
        CHECK.is("none", x.feuds(0, 2), 0);
        CHECK.is("the same", x.feuds(1, 1), NONE);
        CHECK.is("no farm 3", x.feuds(0, 3), NONE);
        CHECK.is("no farm -1", x.feuds(-1, 0), NONE);
        CHECK.is("in all", x.count(7), 1);
    }

    private static void promise12() {
        WolfHalf x = told(farm("a", 20, 0, 4) + farm("b", 20, 0, 0) + "fence a b 3; feed 2;");
        x.nights(3);
        CHECK.is("fed", x.gone(0, false), 6);
        CHECK.is("taken", x.gone(1, true), 3);
        CHECK.is("none fed", x.gone(1, false), 0);
        CHECK.is("none taken", x.gone(0, true), 0);
        CHECK.is("no farm 2", x.gone(2, true), NONE);
        CHECK.is("no farm -1", x.gone(-1, false), NONE);
    }

    private static void promise13() {
        WolfHalf x = told(FORK);
        x.seed(1);
        // the draws go on ahead: 16838, 5758 even; 10113 odd; and are as ahead then
        CHECK.is("loss of b", x.loss(1, 3), 2);
        CHECK.is("loss of c", x.loss(2, 3), 1);
        CHECK.is("loss of a", x.loss(0, 3), 0);
        CHECK.is("night is as ahead", x.count(1), 0);
        CHECK.is("flock is as ahead", x.farm(1, 0), 9000);
        CHECK.is("bones are as ahead", x.bones(), 0);
        x.nights(2);
        CHECK.is("loss from then on, of b", x.loss(1, 4), 0);
        CHECK.is("loss from then on, of c", x.loss(2, 4), 4);
        x.nights(3);
        CHECK.is("the draws were as ahead", x.gone(2, true), 3);
        CHECK.is("nights 0", x.loss(1, 0), NONE);
        CHECK.is("nights 29", x.loss(1, 29), NONE);
        CHECK.is("nights 28", x.loss(0, 28), 0);
        CHECK.is("no farm 3", x.loss(3, 1), NONE);
        CHECK.is("no farm -1", x.loss(-1, 1), NONE);
        // fed counts as much as taken, growth does not count
        WolfHalf grown = told(farm("a", 100, 0, 1) + "feed 1;");
        grown.nights(27);
        CHECK.is("over the end of a moon", grown.loss(0, 2), 2);
    }

    private static void promise14To16() {
        WolfHalf x = told(farm("a", 100, 0, 10) + farm("b", 100, 0, 10) + "fence a b 1; feed 7;");
        // a loses its own level and half of what b leaves, and so does b
        CHECK.is("level 0", x.level(0, 0, 1), 5);
        CHECK.is("level 9, a: 1 and 4", x.level(9, 0, 1), 5);
        CHECK.is("level 9, b: 2 and 5", x.level(9, 1, 1), 7);
        CHECK.is("level 15, two nights", x.level(15, 1, 2), 14);
        CHECK.is("level 16", x.level(16, 0, 1), NONE);
        CHECK.is("level -1", x.level(-1, 0, 1), NONE);
        CHECK.is("level of no farm", x.level(0, 2, 1), NONE);
        CHECK.is("level, nights 0", x.level(0, 0, 0), NONE);
        CHECK.is("level, nights 29", x.level(0, 0, 29), NONE);
        CHECK.is("rests", x.rests(1), 1);
        CHECK.is("rest 0", x.rest(1, 0), 0);
        CHECK.is("rest 1", x.rest(1, 1), NONE);
        CHECK.is("rest -1", x.rest(1, -1), NONE);
        CHECK.is("rests, nights 0", x.rests(0), NONE);
        CHECK.is("rest, nights 29", x.rest(29, 0), NONE);
        CHECK.is("all is as ahead", x.farm(0, 0), 100);
        CHECK.is("the law holds outside of the game", x.loss(0, 1), 9);
        // without wolves all rows are at rest
        WolfHalf calm = told(farm("a", 1, 0, 0) + farm("b", 1, 0, 0) + farm("c", 1, 0, 0) + farm("d", 1, 0, 0));
        CHECK.is("rests of four", calm.rests(28), 256);
        CHECK.is("rest 255", calm.rest(28, 255), 255);
        CHECK.is("rest 256", calm.rest(28, 256), NONE);
        CHECK.is("level 255", calm.level(255, 3, 1), 0);
        CHECK.is("level 256", calm.level(256, 3, 1), NONE);
        WolfHalf five = told(farm("a", 1, 0, 0) + farm("b", 1, 0, 0) + farm("c", 1, 0, 0) + farm("d", 1, 0, 0) + farm("e", 1, 0, 0));
        CHECK.is("rests of five", five.rests(1), NONE);
        CHECK.is("rest of five", five.rest(1, 0), NONE);
        CHECK.is("level of five", five.level(0, 0, 1), NONE);
        CHECK.is("played of five", five.played(0, 1, 0), NONE);
        restsFollowWhatChanges();
        levelsAreOfHomes();
    }

    /** What was asked before must not be answered again once something has changed. */
    private static void restsFollowWhatChanges() {
        WolfHalf x = told(farm("a", 9, 0, 0) + farm("b", 3, 0, 6) + "fence a b 1;");
        CHECK.is("b's level", x.level(8, 1, 1), 2);
        CHECK.is("rests", x.rests(1), 4);
        CHECK.is("another number of nights", x.level(8, 1, 2), 3);
        CHECK.is("rests then: b's flock is gone by each level but 0", x.rests(2), 4);
        x.nights(1);
        CHECK.is("by the night", x.level(0, 0, 1), 3);
        CHECK.is("a's loss ahead", x.level(0, 0, 28), 6);
        x.pact(0, 1, true);
        CHECK.is("by the pact", x.level(0, 0, 28), 0);
        x.mark(0, false);
        x.pact(0, 1, false);
        CHECK.is("by the pact unmade", x.level(0, 0, 28), 6);
        x.mark(0, true);
        CHECK.is("by the mark", x.level(0, 0, 28), 0);
        CHECK.is("all groups are firm then", x.firm(28), 2);
        CHECK.is("another mountain", Check.mountain(x, farm("a", 9, 0, 5) + "feed 1;"), 0);
        CHECK.is("by the mountain", x.level(2, 0, 28), 9);
        CHECK.is("the row of 0", x.level(0, 0, 28), 0);
        CHECK.is("another mountain", Check.mountain(x, farm("a", 0, 0, 5) + farm("b", 9, 0, 0) + "fence a b 0;"), 0);
        CHECK.is("by the other mountain", x.level(0, 1, 28), 9);
        CHECK.is("groups of the other mountain", x.firm(1), 2);
        WolfHalf fork = told(FORK);
        fork.seed(1);
        CHECK.is("seed 1", fork.level(0, 1, 3), 2);
        fork.seed(0);
        // of SEED 0 the draws are 0, 21468, 9988, all even
        CHECK.is("seed 0", fork.level(0, 1, 3), 3);
    }

    private static void levelsAreOfHomes() {
        WolfHalf x = told(farm("a", 50, 0, 9) + farm("b", 50, 0, 0) + "share a b;");
        CHECK.is("a's level feeds in moon 0", x.level(2, 0, 1), 2);
        x.nights(28);
        CHECK.is("a's level does not in moon 1", x.level(2, 0, 1), 0);
        CHECK.is("b's does", x.level(12, 1, 1), 3);
        WolfHalf few = told(farm("a", 2, 0, 9) + farm("b", 9, 0, 2));
        CHECK.is("no more than the flock", few.level(3, 0, 1), 2);
        CHECK.is("no more than the hunger", few.level(12, 1, 1), 2);
    }

    private static void promise17() {
        WolfHalf x = told(farm("a", 100, 0, 10) + farm("b", 100, 0, 10) + "fence a b 1;");
        CHECK.is("played from 5", x.played(5, 1, 0), 0);
        CHECK.is("in rounds", x.played(5, 1, 1), 2);
        CHECK.is("played from 0", x.played(0, 1, 0), 0);
        CHECK.is("in one round", x.played(0, 1, 1), 1);
        CHECK.is("what 2", x.played(0, 1, 2), NONE);
        CHECK.is("what -1", x.played(0, 1, -1), NONE);
        CHECK.is("row 16", x.played(16, 1, 0), NONE);
        CHECK.is("row -1", x.played(-1, 1, 0), NONE);
        CHECK.is("nights 29", x.played(0, 29, 0), NONE);
        CHECK.is("nights 0", x.played(0, 0, 1), NONE);
        // c's wolf takes 2 of the greater of a and b (a of equal ones, by SEED 0): a goes one below b, b follows, a goes back
        WolfHalf ring = told(farm("a", 4, 2, 5) + farm("b", 4, 2, 9) + farm("c", 0, 1, 7) + "fence a c 2; fence b c 0;");
        CHECK.is("a ring", ring.played(0, 1, 0), NONE);
        CHECK.is("of two rounds", ring.played(0, 1, 1), 2);
        CHECK.is("none at rest", ring.rests(1), 0);
        CHECK.is("no rest 0", ring.rest(1, 0), NONE);
    }

    private static void promise18And19() {
        WolfHalf x = told(farm("a", 100, 0, 10) + farm("b", 100, 0, 10) + "fence a b 1;");
        // apart each loses 5, together nothing
        CHECK.is("firm", x.firm(1), 1);
        CHECK.is("group of a", x.group(1, 0, 0), 0);
        CHECK.is("group of b", x.group(1, 0, 1), 0);
        CHECK.is("no second row", x.group(1, 1, 0), NONE);
        CHECK.is("row -1", x.group(1, -1, 0), NONE);
        CHECK.is("no farm 2", x.group(1, 0, 2), NONE);
        CHECK.is("nights 0", x.firm(0), NONE);
        CHECK.is("nights 29", x.firm(29), NONE);
        CHECK.is("group, nights 29", x.group(29, 0, 0), NONE);
        x.pact(0, 1, true);
        CHECK.is("pacts that are there do not count", x.firm(1), 1);
        CHECK.is("nor change", x.count(4), 1);
        String three = farm("a", 9, 0, 0) + farm("b", 9, 0, 0) + farm("c", 9, 0, 0);
        WolfHalf calm = told(three);
        CHECK.is("all rows", calm.firm(28), 5);
        int[][] rows = {{0, 0, 0}, {0, 0, 1}, {0, 1, 0}, {0, 1, 1}, {0, 1, 2}};
        for (int i = 0; i < 5; i++) {
            for (int f = 0; f < 3; f++) {
                CHECK.is("row " + i + " farm " + f, calm.group(28, i, f), rows[i][f]);
            }
        }
        CHECK.is("all rows of four", told(three + farm("d", 9, 0, 0)).firm(1), 15);
        CHECK.is("all rows of one", told(farm("d", 9, 0, 9)).firm(1), 1);
        CHECK.is("all rows of five", told(three + farm("d", 9, 0, 0) + farm("e", 9, 0, 0)).firm(1), 52);
        WolfHalf six = told(three + farm("d", 9, 0, 0) + farm("e", 9, 0, 0) + farm("f", 9, 0, 0));
        CHECK.is("six", six.firm(1), NONE);
        CHECK.is("six, group", six.group(1, 0, 0), NONE);
        // b's wolf goes to a alone: a would leave for b's group, b has nothing of it; so none leaves
        WolfHalf one = told(farm("a", 99, 0, 0) + farm("b", 99, 0, 4) + "fence a b 1;");
        CHECK.is("only one would: both rows are firm", one.firm(1), 2);
        // a's wolf goes to the greater flock, b; joined with a it would go to c; c's wolf likewise
        WolfHalf shift = told(farm("a", 50, 0, 4) + farm("b", 90, 0, 4) + farm("c", 70, 0, 4) + "fence a b 1; fence b c 1; fence a c 1;");
        CHECK.is("of three that take of each other the great group is firm", shift.group(1, 0, 2), 0);
    }

    private static void promise20() {
        WolfHalf x = told(farm("a", 50, 0, 9) + farm("b", 50, 0, 99) + farm("c", 50, 0, 98) + "feed hunger < 10;");
        // one more hunger, and it is not fed any more
        CHECK.is("a pup is worth 1 a night", x.pup(0, 3), 3);
        CHECK.is("all is as ahead", x.farm(0, 2), 9);
        CHECK.is("loss is as ahead", x.loss(0, 3), 3);
        CHECK.noSuch("hunger 99", () -> x.pup(1, 1));
        CHECK.is("hunger 98", x.pup(2, 1), 0);
        CHECK.noSuch("no farm 3", () -> x.pup(3, 1));
        CHECK.noSuch("no farm -1", () -> x.pup(-1, 1));
        CHECK.noSuch("nights 0", () -> x.pup(0, 0));
        CHECK.noSuch("nights 29", () -> x.pup(0, 29));
        WolfHalf more = told(farm("a", 50, 0, 9) + farm("b", 50, 0, 0) + "feed hunger;");
        CHECK.is("a pup may cost", more.pup(0, 2), -2);
        CHECK.is("the pup of no wolf", more.pup(1, 28), -28);
    }

    private static void promise21() {
        WolfHalf x = new WolfHalf();
        CHECK.is("bite 0", x.bite(0), 0);
        CHECK.is("bite 5", x.bite(5), NONE);
        CHECK.is("bite -1", x.bite(-1), NONE);
        for (int i = 1; i <= 8; i++) {
            CHECK.is("bite " + i, x.bite(1 + i % 4), i);
        }
        CHECK.is("a ninth", x.bite(1), NONE);
        CHECK.is("8 are there", x.count(6), 8);
        CHECK.is("none any more", x.bite(0), 0);
        CHECK.is("one again", x.bite(4), 1);
    }

    private static void promise22() {
        WolfHalf x = told(farm("a", 1, 0, 5) + farm("b", 1, 0, 0) + farm("c", 1, 0, 5) + farm("d", 1, 0, 5)
            + "tooth a 1 2 3 0; tooth b 9 9 9 9; tooth c 0 4 3 0;");
        CHECK.is("without a bite, above", x.whose(0, 0), 1);
        CHECK.is("without a bite, below", x.whose(0, 1), 3);
        CHECK.is("no wolf", x.whose(1, 0), NONE);
        x.bite(2);
        // 2, 4 and 1 of 7
        CHECK.is("a above", x.whose(0, 0), 2);
        CHECK.is("a below", x.whose(0, 1), 7);
        CHECK.is("c above", x.whose(2, 0), 4);
        x.bite(2);
        x.bite(3);
        // 12, 48 and 1 of 61
        CHECK.is("a above then", x.whose(0, 0), 12);
        CHECK.is("a below then", x.whose(0, 1), 61);
        x.bite(1);
        // 12, 0 and 1 of 13
        CHECK.is("c above: never", x.whose(2, 0), 0);
        CHECK.is("c below: never", x.whose(2, 1), 1);
        CHECK.is("d above", x.whose(3, 0), 1);
        CHECK.is("d below", x.whose(3, 1), 13);
        CHECK.is("what 2", x.whose(0, 2), NONE);
        CHECK.is("what -1", x.whose(0, -1), NONE);
        CHECK.is("no farm 4", x.whose(4, 0), NONE);
        CHECK.is("no farm -1", x.whose(-1, 0), NONE);
        WolfHalf none = told(farm("a", 1, 0, 5) + "tooth a 1 0 0 0;");
        none.bite(2);
        CHECK.is("the sum is 0, above", none.whose(0, 0), NONE);
        CHECK.is("the sum is 0, below", none.whose(0, 1), NONE);
        WolfHalf many = told(farm("a", 1, 0, 5) + farm("b", 1, 0, 5) + "tooth a 9 0 0 0; tooth b 8 0 0 0;");
        for (int i = 0; i < 8; i++) {
            many.bite(1);
        }
        CHECK.is("nine to the eighth", many.whose(0, 0), 43046721);
        CHECK.is("and eight to the eighth", many.whose(0, 1), 43046721 + 16777216);
    }

    private static void chance(String text, int above, int below) {
        WolfHalf x = told(text);
        CHECK.is("chance above of " + text, x.chance(0), above);
        CHECK.is("chance below of " + text, x.chance(1), below);
        CHECK.is("chance 2", x.chance(2), NONE);
        CHECK.is("chance -1", x.chance(-1), NONE);
    }

    private static void promise23() {
        String fences = "fence a b 0; fence a c 0; fence b c 0; ";
        chance("", 1, 1);
        chance(farm("a", 1, 0, 1) + farm("b", 1, 0, 0), 1, 1);
        chance(farm("a", 1, 0, 1) + farm("b", 1, 0, 1) + "fence a b 1;", 0, 1);
        chance(farm("a", 1, 0, 1) + farm("b", 1, 0, 0) + farm("c", 1, 0, 0) + fences, 1, 1);
        chance(farm("a", 1, 0, 1) + farm("b", 1, 0, 1) + farm("c", 1, 0, 0) + fences, 1, 4);
        chance(farm("a", 1, 0, 1) + farm("b", 1, 0, 1) + farm("c", 1, 0, 1) + fences, 0, 1);
        chance(farm("a", 1, 0, 1) + farm("b", 1, 0, 1) + farm("c", 1, 0, 0) + fences + "pact a c;", 0, 1);
        // a and b have both c and d: 2 of 4, in lowest terms
        String four = farm("a", 1, 0, 1) + farm("b", 1, 0, 1) + farm("c", 1, 0, 0) + farm("d", 1, 0, 0);
        chance(four + "fence a c 0; fence a d 0; fence b c 0; fence b d 0;", 1, 2);
        chance(four + "fence a c 0; fence a d 0; fence a b 0; fence b c 0; fence b d 0;", 2, 9);
        WolfHalf shared = told(farm("a", 1, 0, 1) + farm("b", 1, 0, 1) + farm("c", 1, 0, 0) + "fence b c 0; share a b;");
        CHECK.is("a has none at home", shared.chance(1), 1);
        shared.nights(28);
        CHECK.is("both at b, in moon 1", shared.chance(0), 1);
        WolfHalf home = told(farm("a", 1, 0, 1) + farm("b", 1, 0, 1) + farm("c", 1, 0, 0) + fences + "share a c;");
        CHECK.is("home a", home.chance(1), 4);
        home.nights(28);
        CHECK.is("home c", home.chance(0) * 10 + home.chance(1), 14);
    }

    private static void promise24() {
        WolfHalf x = told(farm("a", 0, 0, 10) + farm("b", 99, 1, 0) + farm("c", 99, 3, 1) + "fence a b 3; fence a c 1; go 1; tooth a 1 2 3 4;");
        x.seed(1);
        CHECK.is("nothing is on it", x.mark(3, true), false);
        CHECK.is("none such", x.mark(4, false), false);
        CHECK.is("none such", x.mark(-1, false), false);
        CHECK.is("none such back", x.mark(4, true), false);
        CHECK.is("none such back", x.mark(-1, true), false);
        x.nights(3);
        x.bite(2);
        x.bite(3);
        CHECK.is("laid", x.mark(3, false), true);
        int[] before = picture(x);
        x.nights(100);
        x.bite(0);
        x.bite(1);
        x.pact(0, 1, true);
        x.seed(77);
        x.feed(0x41L, 0, 0);
        CHECK.is("laid", x.mark(0, false), true);
        int[] later = picture(x);
        CHECK.is("back", x.mark(3, true), true);
        same("as it was", picture(x), before);
        CHECK.is("the tape is not held", x.count(8), 1);
        x.seed(5);
        x.nights(100);
        CHECK.is("on", x.mark(0, true), true);
        same("as it was later", picture(x), later);
        CHECK.is("back once more", x.mark(3, true), true);
        same("as it was, once more", picture(x), before);
        CHECK.is("laid over", x.mark(0, false), true);
        x.nights(1);
        CHECK.is("back", x.mark(0, true), true);
        same("laid over", picture(x), before);
    }

    /** All that a mark holds, and a few draws of what comes. */
    private static int[] picture(WolfHalf x) {
        int[] all = new int[70];
        int n = 0;
        for (int f = 0; f < 3; f++) {
            for (int what = 0; what < 7; what++) {
                all[n++] = x.farm(f, what);
            }
            all[n++] = x.gone(f, true);
            all[n++] = x.gone(f, false);
            all[n++] = x.feuds(f, (f + 1) % 3);
            all[n++] = x.loss(f, 28);
        }
        for (int what = 0; what < 8; what++) {
            all[n++] = x.count(what);
        }
        all[n++] = x.bones();
        for (int i = 0; i < 12; i++) {
            int at = i;
            all[n++] = Check.orNoSuch(() -> x.bone(at, 1));
        }
        all[n++] = Check.orNoSuch(() -> x.bone(80, 1));
        all[n++] = x.whose(0, 0);
        all[n++] = x.whose(0, 1);
        return all;
    }

    private static void same(String what, int[] got, int[] due) {
        for (int i = 0; i < due.length; i++) {
            CHECK.is(what + " " + i, got[i], due[i]);
        }
    }

    private static void promise25() {
        WolfHalf x = told(VALE);
        int[] due = {3, 0, 0, 3, 1, 1, 0, 0, 0};
        for (int what = 0; what < due.length; what++) {
            CHECK.is("count " + what, x.count(what), due[what]);
        }
        CHECK.is("count 9", x.count(9), NONE);
        CHECK.is("count -1", x.count(-1), NONE);
        x.nights(57);
        x.bite(3);
        x.pact(0, 1, true);
        x.feed(0x4142L, 0, 0);
        CHECK.is("the next night", x.count(1), 57);
        CHECK.is("the moon", x.count(2), 2);
        CHECK.is("pacts", x.count(4), 2);
        CHECK.is("bites", x.count(6), 1);
        CHECK.is("signs", x.count(8), 2);
    }
}
