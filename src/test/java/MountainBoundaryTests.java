/** Terms 1 of the document, the lines of a MOUNTAIN: each sentence that names a boundary, and both sides of it. */
public final class MountainBoundaryTests extends Telling {
    private static final String TWO = farm("a", 1, 1, 1) + farm("b", 1, 1, 1);
    private static final String THREE = TWO + farm("c", 1, 1, 1);

    public static void main(String[] args) {
        anyNumberOfLines();
        sixFarms();
        numbersOfFarm();
        hungerNone();
        fencesAndPacts();
        fenceHigh();
        shares();
        teeth();
        lawsOnce();
        names();
        settled();
        toldAgainAndAgain();
        allStays();
        CHECK.close();
    }

    private static String farms(int many) {
        StringBuilder all = new StringBuilder();
        for (int f = 0; f < many; f++) {
            all.append(farm("" + (char) ('p' + f), 10 + f, f, 20 + f));
        }
        return all.toString();
    }

    private static void anyNumberOfLines() {
        CHECK.sentence("Terms 1: MOUNTAIN: any number of (lines)");
        CHECK.is("none", told("").count(0), 0);
        CHECK.is("none but blanks", told(" \n ").count(0), 0);
        CHECK.is("one", told(farms(1)).count(0), 1);
        WolfHalf x = told("go 1; " + farm("a", 1, 1, 1) + "tooth a 1 2 3 4; " + farm("b", 1, 1, 1)
            + "pact b a; share b a; fence a b 7; feed 1; " + farm("c", 1, 1, 1) + "fence c a 0;");
        CHECK.is("lines in any order: farms", x.count(0), 3);
        CHECK.is("fences", x.count(3), 2);
        CHECK.is("pacts", x.count(4), 1);
        CHECK.is("shares", x.count(5), 1);
        // 6 farms have 15 pairs: all of these have a fence and a pact
        StringBuilder all = new StringBuilder(farms(6));
        for (int a = 0; a < 6; a++) {
            for (int b = a + 1; b < 6; b++) {
                String pair = " " + (char) ('p' + b) + " " + (char) ('p' + a);
                all.append("fence").append(pair).append(" 9;pact").append(pair).append(';');
            }
        }
        WolfHalf full = told(all.toString());
        CHECK.is("all fences", full.count(3), 15);
        CHECK.is("all pacts", full.count(4), 15);
    }

    private static void sixFarms() {
        CHECK.sentence("Terms 1: farm: 6 at most, numbered as told; FAULT 5: the word farm of a seventh");
        WolfHalf x = told(farms(6));
        CHECK.is("six", x.count(0), 6);
        for (int f = 0; f < 6; f++) {
            CHECK.is("flock of farm " + f, x.farm(f, 0), 10 + f);
            CHECK.is("dogs of farm " + f, x.farm(f, 1), f);
            CHECK.is("hunger of farm " + f, x.farm(f, 2), 20 + f);
        }
        CHECK.is("there is no farm 6", x.farm(6, 0), NONE);
        CHECK.is("five", told(farms(5)).count(0), 5);
        fault(farms(6) + farm("v", 1, 1, 1), 5, farms(6).length());
        fault(farms(6) + "fence p q 1; farm", 5, farms(6).length() + 13);
        fault(farms(6) + "farm p", 5, farms(6).length());
        fault(farms(6) + "flock", 1, farms(6).length());
    }

    private static void numbersOfFarm() {
        CHECK.sentence("Terms 1: flock 0 to 9999; FAULT 4: a NUMBER that is not as told");
        CHECK.is("flock 0", told(farm("a", 0, 1, 1)).farm(0, 0), 0);
        CHECK.is("flock 9999", told(farm("a", 9999, 1, 1)).farm(0, 0), 9999);
        faultAtLast("farm a flock 10000", 1);
        faultAtLast("farm a flock -", 1);
        CHECK.sentence("Terms 1: dogs 0 to 9");
        CHECK.is("dogs 0", told(farm("a", 1, 0, 1)).farm(0, 1), 0);
        CHECK.is("dogs 9", told(farm("a", 1, 9, 1)).farm(0, 1), 9);
        faultAtLast("farm a flock 1 dogs 10", 4);
        faultAtLast("farm a flock 1 dogs 9999", 4);
        faultAtLast("farm a flock 1 dogs 99999", 1);
        CHECK.sentence("Terms 1: wolf: the HUNGER of its wolf, 0 (none) to 99");
        CHECK.is("hunger 0", told(farm("a", 1, 1, 0)).farm(0, 2), 0);
        CHECK.is("hunger 99", told(farm("a", 1, 1, 99)).farm(0, 2), 99);
        faultAtLast("farm a flock 1 dogs 1 wolf 100", 4);
        faultAtLast("farm a flock 1 dogs 1 wolf 9999", 4);
        faultAtLast("farm a flock 1 dogs 1 wolf -", 1);
    }

    private static void hungerNone() {
        CHECK.sentence("Terms 1: the HUNGER of its wolf, 0 (none)");
        String more = "feed 9;";
        CHECK.is("no wolf is fed nothing", after(28, farm("a", 99, 0, 0) + more).gone(0, false), 0);
        CHECK.is("no wolf is never lean", after(28, farm("a", 0, 0, 0) + more).farm(0, 3), 0);
        CHECK.is("a wolf of HUNGER 1 is fed", after(1, farm("a", 99, 0, 1) + more).gone(0, false), 1);
        CHECK.is("a wolf of HUNGER 1 is lean", after(1, farm("a", 0, 0, 1) + more).farm(0, 3), 1);
    }

    private static void fencesAndPacts() {
        for (String word : new String[] {"fence", "pact"}) {
            String end = word.equals("fence") ? " 1;" : ";";
            CHECK.sentence("Terms 1: " + word + ": two FARMS told; FAULT 2: a NAME of no FARM told");
            told(TWO + word + " a b" + end);
            told(TWO + word + " b a" + end);
            faultAtLast(TWO + word + " c", 2);
            faultAtLast(TWO + word + " a c", 2);
            faultAtLast(word + " a", 2);
            // a FARM that is told behind it is not told yet
            fault(farm("a", 1, 1, 1) + word + " a b" + end + farm("b", 1, 1, 1), 2, farm("a", 1, 1, 1).length() + word.length() + 3);
            CHECK.sentence("Terms 1: " + word + ": not the same; FAULT 3: the second NAME that is the first one");
            faultAtLast(TWO + word + " a a", 3);
            faultAtLast(TWO + word + " b b", 3);
            CHECK.sentence("Terms 1: " + word + ": each pair once; FAULT 3: a pair told already (at its second NAME)");
            faultAtLast(TWO + word + " a b" + end + word + " a b", 3);
            faultAtLast(TWO + word + " a b" + end + word + " b a", 3);
            told(THREE + word + " a b" + end + word + " a c" + end + word + " c b" + end);
            faultAtLast(THREE + word + " a b" + end + word + " a c" + end + word + " c b" + end + word + " c a", 3);
        }
        told(TWO + "fence a b 1; pact a b;");
        told(TWO + "pact b a; fence a b 1;");
    }

    /** How high the fence from a to b is, seen by the law of going: the wolf goes if it is just so high. */
    private static void high(int high) {
        String text = farm("a", 0, 0, 1) + farm("b", 9, 0, 0) + "fence a b " + high + "; go fence = ";
        CHECK.is("a fence " + high + " high", after(1, text + high + ";").bones(), 1);
        CHECK.is("a fence " + high + " high is not higher", after(1, text + (high + 1) + ";").bones(), 0);
        String turned = farm("a", 9, 0, 0) + farm("b", 0, 0, 1) + farm("c", 0, 0, 0) + "fence a b " + high + "; fence c a 77; go fence = ";
        CHECK.is("as high from the other side", after(1, turned + high + ";").bones(), 1);
        CHECK.is("not higher from the other side", after(1, turned + (high + 1) + ";").bones(), 0);
    }

    private static void fenceHigh() {
        CHECK.sentence("Terms 1: a fence is 0 to 99 high");
        high(0);
        high(1);
        high(99);
        faultAtLast(TWO + "fence a b 100", 4);
        faultAtLast(TWO + "fence a b 9999", 4);
        faultAtLast(TWO + "fence a b 10000", 1);
        faultAtLast(TWO + "fence a b ;", 1);
    }

    private static void shares() {
        CHECK.sentence("Terms 1: share: two FARMS told; FAULT 2: a NAME of no FARM told");
        faultAtLast(TWO + "share c", 2);
        faultAtLast(TWO + "share a c", 2);
        fault(farm("a", 1, 1, 1) + "share a b;" + farm("b", 1, 1, 1), 2, farm("a", 1, 1, 1).length() + 8);
        CHECK.sentence("Terms 1: share: not the same; FAULT 3: the second NAME that is the first one");
        faultAtLast(TWO + "share a a", 3);
        faultAtLast(TWO + "share b b", 3);
        CHECK.sentence("Terms 1: each is the first in one share at most; FAULT 3: the first NAME of share that has one");
        faultAtLast(THREE + "share a b; share a", 3);
        fault(THREE + "share a b; share a c;", 3, THREE.length() + 17);
        fault(THREE + "share a b; share a d;", 3, THREE.length() + 17);
        faultAtLast(THREE + "share b a; share a b; share b", 3);
        WolfHalf x = after(28, THREE + "share a b; share b a; share c a;");
        CHECK.is("each may be second in many", x.count(5), 3);
        CHECK.is("a at b", x.farm(0, 4), 1);
        CHECK.is("b at a", x.farm(1, 4), 0);
        CHECK.is("c at a", x.farm(2, 4), 0);
        StringBuilder six = new StringBuilder(farms(6));
        for (int f = 0; f < 6; f++) {
            six.append("share ").append((char) ('p' + f)).append(' ').append((char) ('p' + (f + 1) % 6)).append(';');
        }
        CHECK.is("six shares", told(six.toString()).count(5), 6);
    }

    private static void teeth() {
        CHECK.sentence("Terms 1: tooth: of a FARM, once; FAULT 3: the NAME of tooth that has one");
        faultAtLast(TWO + "tooth c", 2);
        faultAtLast(TWO + "tooth a 1 1 1 1; tooth a", 3);
        faultAtLast(TWO + "tooth a 1 1 1 1; tooth b 1 1 1 1; tooth b", 3);
        told(TWO + "tooth b 1 1 1 1; tooth a 1 1 1 1;");
        CHECK.sentence("Terms 1: tooth: 0 to 9 each; FAULT 4");
        told(TWO + "tooth a 9 9 9 9;");
        faultAtLast(TWO + "tooth a 10", 4);
        faultAtLast(TWO + "tooth a 0 10", 4);
        faultAtLast(TWO + "tooth a 9 9 10", 4);
        faultAtLast(TWO + "tooth a 9 9 9 10", 4);
        faultAtLast(TWO + "tooth a 9 9 9 ;", 1);
        faultAtLast(TWO + "tooth a 9 9 9 9 9", 1);
        CHECK.sentence("Terms 1: tooth: not all 0; FAULT 4: the fourth of tooth if all are 0");
        faultAtLast(TWO + "tooth a 0 0 0 0", 4);
        faultAtLast(TWO + "tooth a 0 0 0 0000", 4);
        for (int wide = 1; wide <= 4; wide++) {
            StringBuilder line = new StringBuilder("tooth b");
            for (int w = 1; w <= 4; w++) {
                line.append(w == wide ? " 1" : " 0");
            }
            WolfHalf x = told(TWO + line + ";");
            for (int w = 1; w <= 4; w++) {
                CHECK.is(line + ", " + w + " wide", x.tooth(1, w), yes(w == wide));
            }
        }
        CHECK.sentence("Terms 1: tooth: 1 each without a line");
        WolfHalf x = told(TWO + "tooth a 2 3 4 5;");
        for (int wide = 1; wide <= 4; wide++) {
            CHECK.is("with a line", x.tooth(0, wide), wide + 1);
            CHECK.is("without a line", x.tooth(1, wide), 1);
        }
        CHECK.is("without a line once more", Check.mountain(x, TWO), 0);
        CHECK.is("the old line is gone", x.tooth(0, 4), 1);
    }

    private static void lawsOnce() {
        CHECK.sentence("Terms 1: feed, go: once each; FAULT 3: feed, go a second time");
        told("feed 1; go 1;");
        told("go 1; feed 1;");
        faultAtLast("feed 1; feed", 3);
        faultAtLast("go 1; go", 3);
        faultAtLast("feed 0; go 0; feed", 3);
        faultAtLast("go 0; feed 0; go", 3);
        fault("feed 1; feed ?", 3, 8);
        CHECK.sentence("Terms 1: Without feed: 0; without go: flock");
        CHECK.is("without feed", after(1, farm("a", 9, 9, 9)).gone(0, false), 0);
        String fork = farm("a", 0, 0, 9) + farm("b", 5, 3, 0) + farm("c", 6, 2, 0) + "fence a b 9; fence a c 1;";
        CHECK.is("without go: the greater flock", after(1, fork).bone(0, 1), 2);
        CHECK.is("without go: no flock, no way", after(1, farm("a", 0, 0, 9) + farm("b", 0, 9, 0) + "fence a b 9;").farm(0, 3), 1);
    }

    private static void names() {
        CHECK.sentence("Terms 1: A NAME is another WORD than farm, flock, dogs, wolf, fence, pact, share, tooth, feed, go, not, and, or");
        for (String word : "farm flock dogs wolf fence pact share tooth feed go not and or".split(" ")) {
            faultAtLast("farm " + word, 1);
            faultAtLast(TWO + "fence " + word, 1);
            faultAtLast(TWO + "fence a " + word, 1);
            faultAtLast(TWO + "pact a " + word, 1);
            faultAtLast(TWO + "share " + word, 1);
            faultAtLast(TWO + "tooth " + word, 1);
            told(farm(word + "x", 1, 1, 1) + farm("x" + word, 1, 1, 1) + farm(word.substring(1), 1, 1, 1));
        }
        for (String word : "hunger night lean none e test sum part".split(" ")) {
            told(farm(word, 1, 1, 1));
        }
        faultAtLast("farm 1", 1);
        faultAtLast("farm ;", 1);
        CHECK.sentence("Terms 1: no two (NAMES) are alike; FAULT 3: a NAME told already");
        faultAtLast(TWO + "farm a", 3);
        faultAtLast(TWO + "farm b", 3);
        faultAtLast(farms(5) + "farm t", 3);
        faultAtLast(farm("abcdefgh", 1, 1, 1) + "farm abcdefgh", 3);
        told(farm("abcdefgh", 1, 1, 1) + farm("abcdefg", 1, 1, 1) + farm("ab", 1, 1, 1) + farm("ba", 1, 1, 1));
    }

    private static void settled() {
        CHECK.sentence("Terms 1: Without a FAULT it is the MOUNTAIN from then on: NIGHT 0 comes next, SEED 0, no BONE, no FEUD, no BITE, no MARK");
        String text = farm("a", 0, 0, 10) + farm("b", 90, 1, 0) + farm("c", 90, 1, 0) + "fence a b 1; fence a c 1; go 1; feed 0;";
        WolfHalf x = after(9, text + "pact b c;");
        x.seed(1);
        x.bite(1);
        x.pact(0, 1, true);
        for (int mark = 0; mark < 4; mark++) {
            x.mark(mark, false);
        }
        CHECK.is("a feud before", x.count(7) > 0, true);
        CHECK.is("told again", Check.mountain(x, text), 0);
        CHECK.is("NIGHT 0", x.count(1), 0);
        CHECK.is("no BONE", x.bones(), 0);
        CHECK.noSuch("no BONE is kept", () -> x.bone(0, 0));
        CHECK.is("no FEUD", x.count(7), 0);
        CHECK.is("no FEUD of two", x.feuds(0, 1) + x.feuds(0, 2), 0);
        CHECK.is("no BITE", x.count(6), 0);
        for (int mark = 0; mark < 4; mark++) {
            CHECK.is("no MARK " + mark, x.mark(mark, true), false);
        }
        CHECK.is("PACTS as told", x.count(4), 0);
        CHECK.is("not lean", x.farm(0, 3), 0);
        CHECK.is("flock as told", x.farm(1, 0), 90);
        CHECK.is("nothing is gone", x.gone(1, true) + x.gone(2, true), 0);
        // of SEED 0 the third draw is even: b; of the SEED before, 1, it is odd: c
        x.nights(3);
        CHECK.is("SEED 0", x.bone(2, 1), 1);
        CHECK.is("the first NIGHT is 0", x.bone(0, 0), 0);
        CHECK.is("an empty TAPE is a MOUNTAIN", x.mountain(), 0);
        CHECK.is("without FARMS", x.count(0) + x.count(1) + x.count(3) + x.count(4) + x.count(5) + x.bones(), 0);
    }

    /** Each has a line of every kind; what an earlier one told, or one with a FAULT, is not told again by it. */
    private static void toldAgainAndAgain() {
        CHECK.sentence("Terms 1: Without a FAULT it is the MOUNTAIN from then on (and nothing of another one)");
        String rich = farm("a", 90, 0, 10) + farm("b", 90, 1, 0) + "fence a b 1; pact b a; share a b; tooth a 2 2 2 2; feed 3; go 1;";
        String poor = farm("a", 90, 0, 10) + farm("b", 90, 1, 0);
        WolfHalf x = new WolfHalf();
        for (int round = 0; round < 4; round++) {
            CHECK.is("told with all", Check.mountain(x, rich), 0);
            CHECK.is("one share", x.count(5), 1);
            x.nights(2);
            CHECK.is("fed by its law", x.gone(0, false), 6);
            CHECK.is("lean", x.farm(0, 3), 2);
            CHECK.is("told with a FAULT at its end", Check.mountain(x, rich + "?"), 1 + 16 * rich.length());
            CHECK.is("gone stays", x.gone(0, false), 6);
            if (round % 2 == 1) {
                CHECK.is("told with little", Check.mountain(x, poor), 0);
                CHECK.is("no fence, no PACT, no share", x.count(3) + x.count(4) + x.count(5), 0);
                CHECK.is("no NEIGHBOURS, no PACTS", x.farm(0, 5) + x.farm(0, 6), 0);
                CHECK.is("no tooth", x.tooth(0, 1), 1);
                CHECK.is("nothing gone", x.gone(0, false), 0);
                CHECK.is("not lean", x.farm(0, 3), 0);
                x.nights(28);
                CHECK.is("without a law", x.gone(0, false), 0);
                CHECK.is("at its own FARM", x.farm(0, 4), 0);
            }
        }
        CHECK.is("fewer FARMS", Check.mountain(x, farm("c", 1, 1, 1)), 0);
        CHECK.is("one", x.count(0), 1);
        CHECK.is("no NAME of another MOUNTAIN", Check.mountain(x, farm("c", 1, 1, 1) + "pact c a;"), 2 + 16 * (farm("c", 1, 1, 1).length() + 7));
    }

    private static void allStays() {
        CHECK.sentence("Promise 3: 0, or its FAULT (all stays then)");
        String text = farm("a", 0, 0, 10) + farm("b", 90, 1, 0) + "fence a b 7; go fence; share b a; tooth a 1 2 3 4; feed lean;";
        WolfHalf x = after(4, farm("a", 0, 0, 10) + farm("b", 90, 1, 0) + "fence a b 1; tooth a 4 3 2 1;");
        x.bite(2);
        x.mark(1, false);
        int[] before = all(x);
        CHECK.is("a FAULT near the end", Check.mountain(x, text), 1 + 16 * text.indexOf("lean"));
        int[] behind = all(x);
        for (int i = 0; i < before.length; i++) {
            CHECK.is("all stays " + i, behind[i], before[i]);
        }
        CHECK.is("the MARK stays", x.mark(1, true), true);
        CHECK.is("no other MARK", x.mark(0, true), false);
        CHECK.is("nights go on", x.nights(1), 5);
        CHECK.is("by the old laws", x.gone(1, true), 20);
    }

    private static int[] all(WolfHalf x) {
        int[] all = new int[40];
        int n = 0;
        for (int f = 0; f < 3; f++) {
            for (int what = 0; what <= 6; what++) {
                all[n++] = x.farm(f, what);
            }
            all[n++] = x.gone(f, true);
            all[n++] = x.loss(f, 28);
        }
        for (int what = 0; what <= 8; what++) {
            all[n++] = x.count(what);
        }
        all[n++] = x.bones();
        all[n++] = x.bone(3, 3);
        all[n++] = x.feuds(0, 1);
        all[n++] = x.tooth(0, 1);
        return all;
    }
}
