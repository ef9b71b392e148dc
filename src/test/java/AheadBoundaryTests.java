/** Terms 3 of the document, LOSS, GAME and PUP: each sentence that names a boundary, and both sides of it. */
public final class AheadBoundaryTests extends Telling {
    /** Two neighbours alike: each night hangs on a draw. */
    private static final String FORK = farm("a", 0, 0, 2) + farm("b", 9000, 0, 0) + farm("c", 9000, 0, 0)
        + "fence a b 1; fence a c 1; go 1;";
    private static final String[] VALES = {
        farm("a", 6, 0, 4) + farm("b", 6, 1, 6) + farm("c", 5, 2, 8) + "fence a c 1; fence b c 1; fence a b 2;",
        farm("a", 60, 0, 9) + farm("b", 50, 1, 7) + farm("c", 70, 2, 0) + "fence a c 1; fence b c 1; go 100 - flock; share a b;",
        farm("a", 3, 0, 9) + farm("b", 2, 1, 2) + farm("c", 9, 2, 1) + "fence a c 1; fence b a 1; pact a c; fence c b 9; go fence;",
        farm("a", 9, 0, 5) + farm("b", 9, 1, 5) + farm("c", 9, 2, 5) + "fence a b 1; fence a c 1; fence b c 1; go 1;"
    };

    /** Mountains whose rows come to rest late, or in rings that begin late. */
    private static final String[] RESTLESS = {
        farm("a", 3, 1, 2) + farm("b", 5, 0, 6) + farm("c", 9, 0, 9) + "fence a c 1; fence b c 1; ",
        farm("a", 5, 1, 3) + farm("b", 7, 2, 7) + farm("c", 4, 2, 7) + "fence a c 1; fence b c 1; ",
        farm("a", 9, 2, 5) + farm("b", 9, 1, 6) + farm("c", 8, 1, 7) + "fence a c 1; fence b c 1; ",
        farm("a", 5, 1, 5) + farm("b", 5, 0, 2) + farm("c", 8, 0, 7) + "fence a c 1; fence b c 1; ",
        farm("a", 8, 1, 4) + farm("b", 9, 1, 4) + farm("c", 9, 0, 9) + "fence a c 1; fence b c 1; ",
        farm("a", 6, 2, 4) + farm("b", 6, 2, 6) + farm("c", 5, 0, 8) + "fence a c 1; fence b c 1; ",
        farm("a", 7, 1, 2) + farm("b", 8, 0, 9) + farm("c", 2, 0, 7) + "fence a c 1; fence b c 1; ",
        farm("a", 8, 0, 5) + farm("b", 8, 0, 3) + farm("c", 3, 0, 9) + "fence a c 1; fence b c 1; "
    };

    public static void main(String[] args) {
        someNights();
        fedOrTaken();
        fromNowOn();
        asAhead();
        fourFarms();
        levelsOfRows();
        rowsOfLevels();
        levelInsteadOfLaw();
        restIsNoLess();
        restsInOrder();
        restsByRecount();
        playedToRest();
        playedRound();
        playedByRecount();
        pupOneMore();
        pupMostHunger();
        CHECK.close();
    }

    private static void someNights() {
        CHECK.sentence("Terms 3: LOSS of a FARM in some NIGHTS (1 to 28)");
        WolfHalf x = told(farm("a", 900, 0, 3) + farm("b", 9, 0, 0) + "feed 3;");
        int[] wrong = {0, 29, -1, 30, 1000, LEAST, MOST};
        for (int nights : wrong) {
            CHECK.is("loss in " + nights, x.loss(0, nights), NONE);
            CHECK.is("level in " + nights, x.level(0, 0, nights), NONE);
            CHECK.is("rests in " + nights, x.rests(nights), NONE);
            CHECK.is("rest in " + nights, x.rest(nights, 0), NONE);
            CHECK.is("played in " + nights, x.played(0, nights, 0), NONE);
            CHECK.is("rounds in " + nights, x.played(0, nights, 1), NONE);
            CHECK.is("firm in " + nights, x.firm(nights), NONE);
            CHECK.is("group in " + nights, x.group(nights, 0, 0), NONE);
            CHECK.noSuch("pup in " + nights, () -> x.pup(0, nights));
        }
        for (int nights = 1; nights <= 28; nights++) {
            int many = nights;
            CHECK.is("loss in " + nights, x.loss(0, nights), 3 * nights);
            CHECK.is("level in " + nights, x.level(2, 0, nights), 2 * nights);
            CHECK.is("rests in " + nights, x.rests(nights), 4);
            CHECK.is("rest in " + nights, x.rest(nights, 1), 4);
            CHECK.is("played in " + nights, x.played(6, nights, 0), 4);
            CHECK.is("firm in " + nights, x.firm(nights), 2);
            CHECK.is("group in " + nights, x.group(nights, 1, 1), 1);
            CHECK.is("pup in " + nights, Check.orNoSuch(() -> x.pup(0, many)), 0);
        }
    }

    private static void fedOrTaken() {
        CHECK.sentence("Terms 3: LOSS: how many of its flock are FED or taken");
        WolfHalf x = told(farm("a", 99, 0, 9) + farm("b", 99, 1, 6) + "fence a b 1; feed 2;");
        // a: 2 are fed, and b's wolf takes half of 4; b: 2 are fed, and a's takes half of 7, less the dog
        CHECK.is("a", x.loss(0, 1), 4);
        CHECK.is("b", x.loss(1, 1), 5);
        CHECK.is("what is gone before does not count", after(5, farm("a", 99, 0, 9) + "feed 2;").loss(0, 1), 2);
        WolfHalf grown = after(27, farm("a", 100, 0, 3) + "feed 3 * (26 < night);");
        CHECK.is("what grows does not count", grown.loss(0, 2), 6);
        WolfHalf all = told(farm("a", 5, 0, 9) + "feed 3;");
        CHECK.is("no more than is there", all.loss(0, 28), 5);
        WolfHalf later = after(27, farm("a", 10, 0, 99) + "feed 99 * (27 < night);");
        CHECK.is("what has grown is lost then", later.loss(0, 28), 11);
    }

    private static void fromNowOn() {
        CHECK.sentence("Terms 3: in some NIGHTS from now on");
        WolfHalf x = told(farm("a", 9000, 0, 99) + "feed night;");
        int due = 0;
        for (int night = 0; night < 30; night++) {
            CHECK.is("of night " + night, x.loss(0, 1), night);
            CHECK.is("of two", x.loss(0, 2), 2 * night + 1);
            x.nights(1);
            due += night;
            CHECK.is("so it comes", x.gone(0, false), due);
        }
        CHECK.is("lean goes on", after(2, farm("a", 0, 0, 9) + farm("b", 9, 0, 0) + "fence a b 1; go lean = 2;").loss(1, 1), 5);
        WolfHalf moon = after(27, farm("a", 90, 0, 9) + farm("b", 90, 0, 0) + "share a b; feed 1;");
        CHECK.is("MOONS go on: a", moon.loss(0, 28), 1);
        CHECK.is("MOONS go on: b", moon.loss(1, 28), 27);
    }

    private static void ask(WolfHalf x, int which) {
        int got;
        switch (which) {
            case 0: got = x.loss(1, 7); break;
            case 1: got = x.level(2, 1, 7); break;
            case 2: got = x.rests(3); break;
            case 3: got = x.rest(3, 0); break;
            case 4: got = x.played(5, 3, 1); break;
            case 5: got = x.firm(7); break;
            case 6: got = x.group(7, 0, 1) + 1; break;
            case 7: got = Check.orNoSuch(() -> x.pup(0, 7)) + 100; break;
            case 8: got = x.whose(0, 1); break;
            default: got = x.chance(1); break;
        }
        CHECK.is("asked, " + which, got >= 0, true);
    }

    private static void asAhead() {
        CHECK.sentence("Terms 3: What is asked here and below is gone on with as it is, g too, and is as ahead then");
        for (int which = 0; which <= 9; which++) {
            WolfHalf x = told(FORK);
            WolfHalf twin = told(FORK);
            x.seed(4);
            twin.seed(4);
            for (int round = 0; round < 6; round++) {
                int nights = 1 + 9 * round;
                ask(x, which);
                for (int f = 0; f < 3; f++) {
                    for (int what = 0; what <= 6; what++) {
                        CHECK.is("farm " + f + " " + what + " behind ask " + which, x.farm(f, what), twin.farm(f, what));
                    }
                    CHECK.is("gone " + f + " behind ask " + which, x.gone(f, true), twin.gone(f, true));
                }
                for (int what = 0; what <= 8; what++) {
                    CHECK.is("count " + what + " behind ask " + which, x.count(what), twin.count(what));
                }
                CHECK.is("bones behind ask " + which, x.bones(), twin.bones());
                CHECK.is("nights go on", x.nights(nights), twin.nights(nights));
            }
            for (int i = 0; i < twin.bones() && i < 200; i++) {
                CHECK.is("draw " + i + " behind ask " + which, x.bone(i, 1), twin.bone(i, 1));
            }
        }
        WolfHalf on = told(FORK);
        on.seed(4);
        on.nights(3);
        int b = on.gone(1, true);
        int lost = on.loss(1, 28);
        on.nights(28);
        CHECK.is("g is gone on with: what was lost ahead is lost", on.gone(1, true) - b, lost);
    }

    private static void fourFarms() {
        CHECK.sentence("Terms 3: GAME of 4 FARMS at most; Promise 14: NONE: more than 4 FARMS");
        for (int farms = 0; farms <= 6; farms++) {
            WolfHalf x = told(calm(farms, 9));
            boolean may = farms <= 4;
            int last = (1 << 2 * farms) - 1;
            // each alone loses least by 0: one row at rest; the last row is played to it in two rounds
            CHECK.is("rests of " + farms, x.rests(1), may ? 1 : NONE);
            CHECK.is("rest of " + farms, x.rest(1, 0), may ? 0 : NONE);
            CHECK.is("no second rest of " + farms, x.rest(1, 1), NONE);
            CHECK.is("played of " + farms, x.played(last, 1, 0), may ? 0 : NONE);
            CHECK.is("rounds of " + farms, x.played(last, 1, 1), !may ? NONE : farms == 0 ? 1 : 2);
            CHECK.is("level of " + farms, x.level(last, farms - 1, 1), may && farms > 0 ? 3 : NONE);
            CHECK.is("level of no FARM of " + farms, x.level(0, farms, 1), NONE);
        }
    }

    private static void levelsOfRows() {
        CHECK.sentence("Terms 3: each has a LEVEL, 0 to 3; a row of LEVELS as a number: FARM k's times 4 to the k");
        WolfHalf x = told(calm(4, 9));
        int[] rows = {0, 1, 3, 4, 12, 16, 48, 64, 192, 27, 228, 255};
        for (int row : rows) {
            int rest = row;
            for (int k = 0; k < 4; k++) {
                CHECK.is("row " + row + " FARM " + k, x.level(row, k, 1), rest % 4);
                rest /= 4;
            }
        }
    }

    private static void rowsOfLevels() {
        CHECK.sentence("Terms 3: rows of LEVELS: of n FARMS those below 4 to the n; Promises 14, 17: NONE: others");
        for (int farms = 0; farms <= 4; farms++) {
            WolfHalf x = told(calm(farms, 9));
            int rows = 1 << 2 * farms;
            int[] wrong = {-1, rows, rows + 1, LEAST, MOST};
            for (int row : wrong) {
                CHECK.is("level by row " + row, x.level(row, 0, 1), NONE);
                CHECK.is("played from row " + row, x.played(row, 1, 0), NONE);
                CHECK.is("rounds from row " + row, x.played(row, 1, 1), NONE);
            }
            CHECK.is("played from the last row", x.played(rows - 1, 1, 0), 0);
            CHECK.is("level by the last row", x.level(rows - 1, 0, 1), farms == 0 ? NONE : 3);
        }
    }

    private static void levelInsteadOfLaw() {
        CHECK.sentence("Terms 3: wolves at HOME there are FED so much instead of the E");
        WolfHalf few = told(farm("a", 2, 0, 9) + farm("b", 9, 0, 2) + farm("c", 3, 0, 3) + "feed 1;");
        CHECK.is("no more than the flock", few.level(3, 0, 1), 2);
        CHECK.is("no more than the HUNGER", few.level(12, 1, 1), 2);
        CHECK.is("flock and HUNGER of 3", few.level(48, 2, 1), 3);
        CHECK.is("0", few.level(0, 2, 1), 0);
        WolfHalf both = told(farm("a", 90, 0, 9) + farm("b", 90, 0, 9) + "share a b; feed 1;");
        CHECK.is("in MOON 0 each is FED at its own", both.level(13, 1, 1), 3);
        both.nights(28);
        CHECK.is("in MOON 1 both are FED at b", both.level(13, 1, 1), 6);
        CHECK.is("none at a", both.level(13, 0, 1), 0);
        // a law of feeding that knows the FARMS by their dogs does what the row does
        for (int v = 0; v < VALES.length; v++) {
            WolfHalf x = told(VALES[v]);
            for (int row = 0; row < 64; row += 7) {
                WolfHalf law = told(VALES[v] + "feed " + row % 4 + " * (dogs = 0) + " + row / 4 % 4 + " * (dogs = 1) + " + row / 16 + " * (dogs = 2);");
                for (int f = 0; f < 3; f++) {
                    CHECK.is("vale " + v + " row " + row + " farm " + f, x.level(row, f, 3), law.loss(f, 3));
                    CHECK.is("vale " + v + " row " + row + " farm " + f + ", a MOON", x.level(row, f, 28), law.loss(f, 28));
                }
            }
        }
    }

    private static int withLevel(int row, int farm, int level) {
        int unit = 1 << 2 * farm;
        return row - row / unit % 4 * unit + level * unit;
    }

    /** The losses of all rows, a new object for each farm, as an object has few calls. */
    private static int[][] allLosses(String text, int farms, int nights) {
        int[][] all = new int[1 << 2 * farms][farms];
        for (int f = 0; f < farms; f++) {
            WolfHalf x = told(text);
            for (int row = 0; row < all.length; row++) {
                all[row][f] = x.level(row, f, nights);
            }
        }
        return all;
    }

    private static boolean rests(int[][] losses, int row) {
        for (int f = 0; f < losses[row].length; f++) {
            for (int level = 0; level < 4; level++) {
                if (losses[withLevel(row, f, level)][f] < losses[row][f]) {
                    return false;
                }
            }
        }
        return true;
    }

    private static void restIsNoLess() {
        CHECK.sentence("Terms 3: At REST: no FARM alone would have less LOSS by another LEVEL");
        // without a wolf it loses nothing by any LEVEL: equal is not less
        WolfHalf none = told(farm("a", 9, 0, 0));
        CHECK.is("all rows of one FARM", none.rests(1), 4);
        WolfHalf one = told(farm("a", 9, 0, 1));
        CHECK.is("only the least", one.rests(1), 1);
        CHECK.is("it is 0", one.rest(1, 0), 0);
        WolfHalf pair = told(farm("a", 9, 0, 0) + farm("b", 9, 0, 9) + "fence a b 1;");
        CHECK.is("a's LEVEL is free, b's is 0", pair.rests(1), 4);
        CHECK.is("the last of them", pair.rest(1, 3), 3);
        WolfHalf both = told(farm("a", 90, 0, 4) + farm("b", 90, 0, 4) + "fence a b 1;");
        CHECK.is("by 2 and 2: 2 and half of 2", both.level(10, 0, 1), 3);
        CHECK.is("by 0 and 0: half of 4", both.level(0, 0, 1), 2);
        CHECK.is("0 and 0 alone rests", both.rests(1) * 100 + both.rest(1, 0), 100);
        // a's LEVEL 0 costs it nothing, and nothing it can do saves it; b's one sheep is gone by 1, 2, 3, and by a's wolf anyway
        WolfHalf gone = told(farm("a", 0, 0, 9) + farm("b", 1, 0, 9) + "fence a b 1;");
        CHECK.is("each row is at rest where nothing is less", gone.rests(1), 16);
    }

    private static void restsInOrder() {
        CHECK.sentence("Promise 16: The i-th row at REST, the least first; NONE: others, none such");
        WolfHalf x = told(farm("a", 9, 0, 0) + farm("b", 9, 0, 5) + farm("c", 9, 0, 0));
        CHECK.is("a's and c's are free, b's is 0", x.rests(28), 16);
        for (int i = 0; i < 16; i++) {
            CHECK.is("row " + i, x.rest(28, i), i % 4 + 16 * (i / 4));
        }
        int[] wrong = {-1, 16, 17, LEAST, MOST};
        for (int i : wrong) {
            CHECK.is("row " + i, x.rest(28, i), NONE);
        }
        WolfHalf four = told(farm("a", 9, 0, 0) + farm("b", 9, 0, 0) + farm("c", 9, 0, 0) + farm("d", 9, 0, 0));
        CHECK.is("all rows of four", four.rests(1), 256);
        CHECK.is("the last", four.rest(1, 255), 255);
        CHECK.is("none behind it", four.rest(1, 256), NONE);
    }

    private static void restsByRecount() {
        CHECK.sentence("Promises 15, 16: rows at REST, counted again by their LOSSES");
        for (int v = 0; v < VALES.length; v++) {
            for (int nights = 1; nights <= 28; nights += 9) {
                int[][] losses = allLosses(VALES[v], 3, nights);
                WolfHalf x = told(VALES[v]);
                int many = 0;
                for (int row = 0; row < losses.length; row++) {
                    if (rests(losses, row)) {
                        CHECK.is("vale " + v + " nights " + nights + " rest " + many, x.rest(nights, many), row);
                        many++;
                    }
                }
                CHECK.is("vale " + v + " nights " + nights + " rests", x.rests(nights), many);
                CHECK.is("vale " + v + " nights " + nights + " behind them", x.rest(nights, many), NONE);
            }
        }
    }

    private static void played(String text, int row, int nights, int rests, int rounds) {
        WolfHalf x = told(text);
        CHECK.is("played from " + row + " in " + nights + " " + text, x.played(row, nights, 0), rests);
        CHECK.is("rounds from " + row + " in " + nights + " " + text, x.played(row, nights, 1), rounds);
        for (int what : new int[] {-1, 2, LEAST, MOST}) {
            CHECK.is("what " + what, x.played(row, nights, what), NONE);
        }
    }

    private static void playedToRest() {
        CHECK.sentence("Terms 3: PLAYED: till none does in a whole round (REST); Promise 17: how many rounds (with the last one)");
        String calm = farm("a", 9, 0, 5) + farm("b", 9, 0, 0);
        played(calm, 0, 1, 0, 1);
        played(calm, 8, 1, 8, 1);
        played(calm, 9, 1, 8, 2);
        played(calm, 15, 1, 12, 2);
        // from 1 and 2: a has 2 either way and stays, b takes 0; then a has 3 by 1 and 2 by 0, b has nothing left by any
        played(farm("a", 9, 2, 7) + farm("b", 3, 1, 7) + "fence a b 1; ", 9, 1, 0, 3);
        played(RESTLESS[0], 5, 1, 14, 4);
        played(RESTLESS[1], 52, 2, 1, 5);
        CHECK.sentence("Terms 3: PLAYED: the LEVEL of least LOSS if that is less than it has (of equal ones the least)");
        // of a flock of none nothing is lost by any LEVEL; of a flock of 1 as much by 1 as by 3
        played(farm("a", 0, 0, 9) + farm("b", 9, 0, 9), 15, 1, 3, 2);
        played(farm("a", 1, 0, 9), 3, 1, 0, 2);
        played(farm("a", 1, 0, 9), 2, 28, 0, 2);
        played(farm("a", 9, 0, 0), 3, 1, 3, 1);
    }

    private static void playedRound() {
        CHECK.sentence("Terms 3: PLAYED: or, behind a round, the row is one that was at the beginning (RING)");
        played(RESTLESS[2], 0, 1, NONE, 2);
        played(RESTLESS[3], 0, 1, NONE, 3);
        played(RESTLESS[4], 3, 1, NONE, 4);
        CHECK.sentence("Terms 3: PLAYED: or, behind a round, the row is one that was behind an earlier round (RING)");
        played(RESTLESS[5], 2, 1, NONE, 3);
        played(RESTLESS[6], 2, 1, NONE, 4);
        played(RESTLESS[7], 20, 1, NONE, 6);
        played(RESTLESS[7], 29, 1, NONE, 7);
    }

    /** Where it ends and how many rounds: row, rounds. */
    private static int[] playAgain(int[][] losses, int from) {
        boolean[] been = new boolean[losses.length];
        int row = from;
        for (int rounds = 1; ; rounds++) {
            been[row] = true;
            int before = row;
            for (int f = 0; f < losses[row].length; f++) {
                row = turn(losses, row, f);
            }
            if (row == before) {
                return new int[] {row, rounds};
            }
            if (been[row]) {
                return new int[] {NONE, rounds};
            }
        }
    }

    /** The row behind a FARM's turn: the least LEVEL of least LOSS, if that is less than it has. */
    private static int turn(int[][] losses, int row, int farm) {
        int best = withLevel(row, farm, 0);
        for (int level = 1; level < 4; level++) {
            int other = withLevel(row, farm, level);
            best = losses[other][farm] < losses[best][farm] ? other : best;
        }
        return losses[best][farm] < losses[row][farm] ? best : row;
    }

    private static void playedByRecount() {
        CHECK.sentence("Promise 17: PLAYED, played again by the LOSSES");
        String[][] more = {VALES, RESTLESS};
        for (String[] texts : more) {
            for (String text : texts) {
                for (int nights = 1; nights <= 10; nights += 3) {
                    playedAs(text, nights);
                }
            }
        }
    }

    private static void playedAs(String text, int nights) {
        int[][] losses = allLosses(text, 3, nights);
        WolfHalf x = told(text);
        for (int row = 0; row < 64; row++) {
            int[] due = playAgain(losses, row);
            CHECK.is(nights + " nights from " + row + " " + text, x.played(row, nights, 0), due[0]);
            CHECK.is("rounds, " + nights + " nights from " + row + " " + text, x.played(row, nights, 1), due[1]);
        }
    }

    private static void pupOneMore() {
        CHECK.sentence("Terms 3: PUP: how much less LOSS a FARM has if its wolf's HUNGER is one more (it may be below 0); all else as it is");
        String text = farm("b", 80, 1, 7) + "fence a b 1; feed hunger - 4; share b a;";
        for (int hunger = 0; hunger <= 12; hunger++) {
            for (int nights = 1; nights <= 28; nights += 9) {
                int many = nights;
                WolfHalf x = told(farm("a", 90, 0, hunger) + text);
                WolfHalf more = told(farm("a", 90, 0, hunger + 1) + text);
                CHECK.is("pup by HUNGER " + hunger, Check.orNoSuch(() -> x.pup(0, many)), x.loss(0, many) - more.loss(0, many));
            }
        }
        WolfHalf costs = told(farm("a", 50, 0, 9) + farm("b", 50, 0, 0) + "feed hunger;");
        CHECK.is("below 0", costs.pup(0, 1), -1);
        CHECK.is("of HUNGER 0", costs.pup(1, 28), -28);
        CHECK.is("more than 0", told(farm("a", 50, 0, 9) + "feed 2 * (hunger < 10);").pup(0, 5), 10);
    }

    private static void pupMostHunger() {
        CHECK.sentence("Promise 20: NoSuchElementException: others, its HUNGER is 99");
        WolfHalf x = told(farm("a", 50, 0, 97) + farm("b", 500, 0, 98) + farm("c", 50, 0, 99) + farm("d", 50, 0, 0) + "feed hunger - 90;");
        CHECK.is("HUNGER 97", x.pup(0, 1), -1);
        CHECK.is("HUNGER 98", x.pup(1, 28), -28);
        CHECK.noSuch("HUNGER 99", () -> x.pup(2, 1));
        CHECK.is("HUNGER 0", x.pup(3, 1), 0);
        for (int farm : new int[] {-1, 4, 5, 6, LEAST, MOST}) {
            CHECK.noSuch("pup of no FARM " + farm, () -> x.pup(farm, 1));
        }
        WolfHalf none = new WolfHalf();
        CHECK.noSuch("without FARMS", () -> none.pup(0, 1));
        CHECK.is("all HUNGER is as it was", x.farm(0, 2) * 10000 + x.farm(1, 2) * 100 + x.farm(2, 2), 979899);
    }
}
