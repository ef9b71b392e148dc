/** Promises 1 to 13 and 25 of the document: what each call takes, and what it answers else; both sides of each boundary. */
public final class PromiseBoundaryTests extends Telling {
    private static final int[] NO_FARMS = {-1, 3, 4, 5, 6, 7, LEAST, MOST};
    private static final String THREE = farm("a", 40, 1, 12) + farm("b", 70, 2, 0) + farm("c", 30, 9, 99)
        + "fence b a 5; fence b c 99; pact c a; share a b; feed 2;";

    public static void main(String[] args) {
        callsOfAnObject();
        newObject();
        whatOfFarm();
        noFarms();
        seeds();
        manyNights();
        nightsGoOn();
        whatOfBone();
        feudsOfTwo();
        goneUpToNow();
        lossOthers();
        counts();
        countsRise();
        CHECK.close();
    }

    private static void callsOfAnObject() {
        CHECK.sentence("An object is used for at most 512 calls after it has been made");
        WolfHalf nights = new WolfHalf();
        WolfHalf signs = new WolfHalf();
        WolfHalf ahead = new WolfHalf();
        for (int call = 1; call <= 512; call++) {
            CHECK.is("nights, call " + call, nights.nights(1000), 1000 * call);
            CHECK.is("feed, call " + call, signs.feed('a', 0, 0), call);
            CHECK.is("firm, call " + call, ahead.firm(1 + call % 28), 1);
        }
    }

    private static void newObject() {
        CHECK.sentence("Promise 1: A new object: No FARM");
        CHECK.is("NONE", WolfHalf.NONE, -1);
        WolfHalf x = new WolfHalf();
        for (int what = 0; what <= 8; what++) {
            CHECK.is("count " + what, x.count(what), 0);
        }
        CHECK.is("farm", x.farm(0, 0), NONE);
        CHECK.is("tooth", x.tooth(0, 1), NONE);
        CHECK.is("gone", x.gone(0, true), NONE);
        CHECK.is("loss", x.loss(0, 1), NONE);
        CHECK.is("level", x.level(0, 0, 1), NONE);
        CHECK.is("pact", x.pact(0, 1, true), false);
        CHECK.is("feuds", x.feuds(0, 1), NONE);
        CHECK.is("whose", x.whose(0, 0), NONE);
        CHECK.is("group", x.group(1, 0, 0), NONE);
        CHECK.is("bones", x.bones(), 0);
        CHECK.noSuch("bone", () -> x.bone(0, 0));
        CHECK.noSuch("pup", () -> x.pup(0, 1));
        CHECK.is("chance", x.chance(0) * 10 + x.chance(1), 11);
        CHECK.is("one row of LEVELS", x.rests(1), 1);
        CHECK.is("one row of groups", x.firm(1), 1);
        CHECK.is("seed", x.seed(1), true);
        CHECK.is("nights", x.nights(1), 1);
        CHECK.is("mark", x.mark(0, false), true);
    }

    private static void whatOfFarm() {
        CHECK.sentence("Promise 4: what 0: flock, 1: dogs, 2: HUNGER, 3: lean, 4: HOME tonight, 5: NEIGHBOURS as bits, 6: with whom it has PACTS; NONE: others");
        WolfHalf x = told(THREE);
        int[][] due = {{40, 1, 12, 0, 0, 2, 4}, {70, 2, 0, 0, 1, 5, 0}, {30, 9, 99, 0, 2, 2, 1}};
        for (int f = 0; f < 3; f++) {
            for (int what = 0; what <= 6; what++) {
                CHECK.is("farm " + f + " " + what, x.farm(f, what), due[f][what]);
            }
            for (int what : new int[] {-1, 7, 8, LEAST, MOST}) {
                CHECK.is("farm " + f + " " + what, x.farm(f, what), NONE);
            }
        }
        x.nights(27);
        CHECK.is("HOME of the 28th night", x.farm(0, 4), 0);
        x.nights(1);
        CHECK.is("HOME of the 29th night", x.farm(0, 4), 1);
        CHECK.is("NEIGHBOURS of the FARM, not of HOME", x.farm(0, 5), 2);
        CHECK.is("dogs stay", x.farm(2, 1), 9);
        CHECK.is("HUNGER stays", x.farm(2, 2), 99);
        // 15 fences: each has all others, to bit 5
        StringBuilder six = new StringBuilder();
        for (int f = 0; f < 6; f++) {
            six.append(farm("" + (char) ('a' + f), 1, 0, 0));
            for (int other = 0; other < f; other++) {
                String pair = " " + (char) ('a' + f) + " " + (char) ('a' + other);
                six.append("fence").append(pair).append(" 1;").append(f == 5 ? "pact" + pair + ";" : "");
            }
        }
        WolfHalf all = told(six.toString());
        for (int f = 0; f < 5; f++) {
            CHECK.is("NEIGHBOURS of " + f, all.farm(f, 5), 31 - (1 << f));
            CHECK.is("PACTS of " + f, all.farm(f, 6), 32);
        }
        CHECK.is("NEIGHBOURS of 5", all.farm(5, 5), 0);
        CHECK.is("PACTS of 5", all.farm(5, 6), 31);
    }

    private static void noFarms() {
        CHECK.sentence("Promises 4, 5, 11, 12, 13, 14, 19, 20, 22: of no such FARM: NONE (pup: NoSuchElementException)");
        WolfHalf x = told(THREE);
        for (int f : NO_FARMS) {
            CHECK.is("farm " + f, x.farm(f, 0), NONE);
            CHECK.is("tooth " + f, x.tooth(f, 1), NONE);
            CHECK.is("gone " + f, x.gone(f, true), NONE);
            CHECK.is("fed " + f, x.gone(f, false), NONE);
            CHECK.is("loss " + f, x.loss(f, 1), NONE);
            CHECK.is("level " + f, x.level(0, f, 1), NONE);
            CHECK.is("group " + f, x.group(1, 0, f), NONE);
            CHECK.is("whose " + f, x.whose(f, 0), NONE);
            CHECK.is("feuds with " + f, x.feuds(0, f), NONE);
            CHECK.is("feuds of " + f, x.feuds(f, 0), NONE);
            CHECK.noSuch("pup " + f, () -> x.pup(f, 1));
        }
        CHECK.is("the last FARM", x.farm(2, 0), 30);
        CHECK.is("the last FARM's tooth", x.tooth(2, 4), 1);
        CHECK.is("the last FARM's LOSS", x.loss(2, 1), 2);
        CHECK.is("the last FARM's LOSS by LEVELS", x.level(48, 2, 1), 3);
        CHECK.is("the last FARM's feuds", x.feuds(1, 2), 0);
    }

    private static void seeds() {
        CHECK.sentence("Promise 6: SEED (0 to 9999): g is it: true; false: others");
        String fork = farm("a", 0, 0, 2) + farm("b", 9000, 0, 0) + farm("c", 9000, 0, 0) + "fence a b 1; fence a c 1; go 1;";
        WolfHalf x = told(fork);
        for (int seed : new int[] {0, 1, 9998, 9999}) {
            CHECK.is("seed " + seed, x.seed(seed), true);
        }
        // of SEED 1 the first three draws below 2 are 0, 0, 1; what is refused changes nothing
        x.seed(1);
        for (int seed : new int[] {-1, -2, 10000, 10001, LEAST, MOST}) {
            CHECK.is("seed " + seed, x.seed(seed), false);
        }
        x.nights(3);
        CHECK.is("draws of SEED 1", x.bone(0, 1) * 100 + x.bone(1, 1) * 10 + x.bone(2, 1), 112);
        x.seed(1);
        x.nights(3);
        CHECK.is("the same once more", x.bone(3, 1) * 100 + x.bone(4, 1) * 10 + x.bone(5, 1), 112);
        // 9999 * 1103515245 + 12345 is 11034048947100; modulo 2147483648 and by 65536, cut, it is even or odd as here
        long g = (9999L * 1103515245L + 12345L) % 2147483648L;
        x.seed(9999);
        x.nights(1);
        CHECK.is("the draw of SEED 9999", x.bone(6, 1), 1 + g / 65536 % 2);
    }

    private static void manyNights() {
        CHECK.sentence("Promise 7: So many NIGHTS (1 to 1,000): the number of the next one; NONE: others");
        WolfHalf x = told(farm("a", 9999, 0, 9) + "feed 1;");
        for (int many : new int[] {0, -1, 1001, 1002, LEAST, MOST}) {
            CHECK.is("nights " + many, x.nights(many), NONE);
            CHECK.is("nothing has come to pass", x.count(1) + x.gone(0, false), 0);
        }
        CHECK.is("one", x.nights(1), 1);
        CHECK.is("one was fed", x.gone(0, false), 1);
        CHECK.is("2", x.nights(2), 3);
        CHECK.is("3 were fed", x.gone(0, false), 3);
        CHECK.is("999", x.nights(999), 1002);
        CHECK.is("1,000", x.nights(1000), 2002);
        CHECK.is("2,002 were fed", x.gone(0, false), 2002);
        CHECK.is("the next one", x.count(1), 2002);
    }

    private static void nightsGoOn() {
        CHECK.sentence("Promise 7: So many NIGHTS: as many at once as one by one");
        String text = farm("a", 60, 0, 9) + farm("b", 90, 1, 7) + farm("c", 80, 0, 30) + "fence a b 1; fence b c 1; fence a c 1; share b c; feed night - 20; go 1;";
        WolfHalf once = after(100, text);
        WolfHalf single = told(text);
        for (int i = 0; i < 100; i++) {
            single.nights(1);
        }
        for (int f = 0; f < 3; f++) {
            for (int what = 0; what <= 6; what++) {
                CHECK.is("farm " + f + " " + what, single.farm(f, what), once.farm(f, what));
            }
        }
        CHECK.is("bones", single.bones(), once.bones());
        CHECK.is("feuds", single.count(7), once.count(7));
    }

    private static void whatOfBone() {
        CHECK.sentence("Promise 10: Of a BONE, what 0: the NIGHT, 1: whose flock, 2: whose wolf, 3: how many; NoSuchElementException: others");
        WolfHalf x = told(farm("a", 9, 0, 0) + farm("b", 90, 2, 0) + farm("c", 0, 0, 9) + "fence c b 1; fence c a 9;");
        CHECK.noSuch("none is there", () -> x.bone(0, 0));
        x.nights(2);
        int[] due = {1, 1, 2, 3};
        for (int what = 0; what <= 3; what++) {
            CHECK.is("bone 1, " + what, x.bone(1, what), due[what]);
        }
        for (int what : new int[] {-1, 4, 5, LEAST, MOST}) {
            CHECK.noSuch("what " + what, () -> x.bone(0, what));
        }
        for (int i : new int[] {-1, 2, 3, 199, 200, LEAST, MOST}) {
            CHECK.noSuch("bone " + i, () -> x.bone(i, 0));
        }
        WolfHalf away = after(29, farm("a", 0, 0, 4) + farm("b", 0, 0, 0) + farm("c", 50, 0, 0) + "share a b; fence b c 1;");
        CHECK.is("whose wolf: its FARM's, not HOME's", away.bone(0, 2), 0);
        CHECK.is("the first is of night 28", away.bone(0, 0), 28);
    }

    private static void feudsOfTwo() {
        CHECK.sentence("Promise 11: FEUDS of two FARMS; NONE: others, the same");
        WolfHalf x = after(3, farm("a", 0, 0, 10) + farm("b", 99, 1, 0) + farm("c", 1, 0, 0) + "fence a b 3;");
        for (int a = 0; a < 3; a++) {
            for (int b = 0; b < 3; b++) {
                CHECK.is("feuds of " + a + " and " + b, x.feuds(a, b), a == b ? NONE : yes(a + b == 1));
            }
        }
        CHECK.is("of no FARM with itself", x.feuds(3, 3), NONE);
    }

    private static void goneUpToNow() {
        CHECK.sentence("Promise 12: All of a FARM's flock that were FED (taken: taken) up to now");
        WolfHalf x = told(farm("a", 200, 0, 4) + farm("b", 200, 0, 0) + "fence a b 3; feed 2;");
        for (int nights = 0; nights <= 60; nights++) {
            CHECK.is("fed at a behind " + nights, x.gone(0, false), 2 * nights);
            CHECK.is("taken of b behind " + nights, x.gone(1, true), nights);
            CHECK.is("none else", x.gone(0, true) + x.gone(1, false), 0);
            x.nights(1);
        }
    }

    private static void lossOthers() {
        CHECK.sentence("Promise 13: LOSS; NONE: others (no FARM, or nights not 1 to 28)");
        WolfHalf x = told(THREE);
        int[] nights = {LEAST, -1, 0, 1, 28, 29, MOST};
        int[] farms = {LEAST, -1, 0, 2, 3, 6, MOST};
        for (int f : farms) {
            for (int many : nights) {
                boolean may = f >= 0 && f <= 2 && many >= 1 && many <= 28;
                CHECK.is("loss " + f + " " + many, x.loss(f, many) == NONE, !may);
            }
        }
    }

    private static void counts() {
        CHECK.sentence("Promise 25: What 0: FARMS, 1: the next NIGHT, 2: MOON, 3: fences, 4: PACTS, 5: shares, 6: BITES, 7: FEUDS in all, 8: signs. NONE for another what");
        WolfHalf x = told(THREE);
        x.nights(57);
        x.bite(3);
        x.feed(0x4142L, 0, 0x43L);
        int[] due = {3, 57, 2, 2, 1, 1, 1, x.feuds(0, 1) + x.feuds(0, 2) + x.feuds(1, 2), 3};
        for (int what = 0; what <= 8; what++) {
            CHECK.is("count " + what, x.count(what), due[what]);
        }
        for (int what : new int[] {-1, 9, 10, LEAST, MOST}) {
            CHECK.is("count " + what, x.count(what), NONE);
        }
    }

    private static void countsRise() {
        CHECK.sentence("Promise 25: FEUDS in all: of all pairs");
        WolfHalf x = told(farm("a", 0, 0, 10) + farm("b", 99, 1, 0) + farm("c", 0, 0, 10) + farm("d", 99, 1, 0)
            + farm("e", 0, 0, 10) + farm("f", 99, 1, 0) + "fence a b 1; fence c d 1; fence e f 1;");
        for (int nights = 1; nights <= 9; nights++) {
            x.nights(1);
            CHECK.is("behind " + nights, x.count(7), nights / 3 * 3);
        }
        CHECK.is("each pair has its own", x.feuds(0, 1) * 100 + x.feuds(2, 3) * 10 + x.feuds(5, 4), 333);
        CHECK.is("others have none", x.feuds(0, 5) + x.feuds(1, 2) + x.feuds(3, 4), 0);
    }
}
