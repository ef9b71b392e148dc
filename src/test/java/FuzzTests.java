import java.util.Random;

/** Runs of made-up calls, each held against the Oracle; the same runs every time. */
public final class FuzzTests {
    /** An object is used for 512 calls at most; one more made-up call may take up to some 90 of them. */
    private static final int MOST_USED = 420;

    private static final Check CHECK = new Check();

    private final Random random;
    private final Stories stories;
    private final WolfHalf x = new WolfHalf();
    private final Oracle o = new Oracle();
    private int farms = 0;
    private int used = 0;

    private FuzzTests(long run) {
        random = new Random(run);
        stories = new Stories(random);
    }

    public static void main(String[] args) {
        int runs = args.length > 0 ? Integer.parseInt(args[0]) : 4000;
        int first = args.length > 1 ? Integer.parseInt(args[1]) : 0;
        for (int run = first; run < first + runs && CHECK.failures() < 20; run++) {
            new FuzzTests(run).play(run);
        }
        CHECK.close();
    }

    private void play(int run) {
        tellMountain(run);
        int calls = 20 + random.nextInt(60);
        for (int i = 0; i < calls && used < MOST_USED && CHECK.failures() < 20; i++) {
            call(run + "." + i + " ");
        }
    }

    private int below(int m) {
        return random.nextInt(m);
    }

    /** Mostly a farm that is, now and then one that is not. */
    private int anyFarm() {
        return below(12) == 0 ? below(10) - 2 : below(Math.max(1, farms));
    }

    private int anyNights() {
        return below(12) == 0 ? below(2) * 29 : below(3) == 0 ? 1 + below(28) : 1 + below(4);
    }

    private int anyWhat(int most) {
        return below(10) == 0 ? below(12) - 2 : below(most + 1);
    }

    private int anyRow() {
        return below(10) == 0 ? below(300) - 20 : below(1 << 2 * Math.min(farms, 4));
    }

    private void tellMountain(int run) {
        farms = below(8) == 0 ? 6 : below(6);
        String text = stories.mountain(farms);
        used += text.length() / 24 + 4;
        for (int from = 0; from < text.length(); from += 24) {
            long a = Check.eight(text, from);
            long b = Check.eight(text, from + 8);
            long c = Check.eight(text, from + 16);
            CHECK.is("feed", x.feed(a, b, c), o.feed(a, b, c));
        }
        if (below(10) == 0) {
            CHECK.is("count", x.count(8), o.count(8));
        }
        CHECK.is(run + " mountain " + text, x.mountain(), o.mountain());
        farms = o.count(0);
    }

    private void call(String at) {
        used += 2;
        int f = anyFarm();
        int p = anyFarm();
        int nights = anyNights();
        switch (below(24)) {
            case 0: {
                if (below(6) == 0) {
                    tellMountain(-1);
                }
                break;
            }
            case 1: {
                long a = random.nextLong();
                CHECK.is(at + "feed", x.feed(a, 0, a), o.feed(a, 0, a));
                break;
            }
            case 2: {
                int what = anyWhat(6);
                CHECK.is(at + "farm " + f + " " + what, x.farm(f, what), o.farm(f, what));
                break;
            }
            case 3: {
                int wide = anyWhat(4);
                CHECK.is(at + "tooth", x.tooth(f, wide), o.tooth(f, wide));
                break;
            }
            case 4: {
                int seed = below(10100) - 50;
                CHECK.is(at + "seed", x.seed(seed), o.seed(seed));
                break;
            }
            case 5:
            case 6:
            case 7: {
                int many = below(20) == 0 ? below(1100) - 50 : below(4) == 0 ? below(60) : below(5);
                CHECK.is(at + "nights " + many, x.nights(many), o.nights(many));
                all(at + "after nights " + many + ": ");
                break;
            }
            case 8: {
                boolean made = below(2) == 0;
                CHECK.is(at + "pact", x.pact(f, p, made), o.pact(f, p, made));
                break;
            }
            case 9: {
                int i = below(3) == 0 ? below(300) - 20 : below(Math.max(1, o.bones()));
                int what = anyWhat(3);
                CHECK.is(at + "bones", x.bones(), o.bones());
                CHECK.is(at + "bone " + i + " " + what, Check.orNoSuch(() -> x.bone(i, what)), Check.orNoSuch(() -> o.bone(i, what)));
                break;
            }
            case 10: {
                CHECK.is(at + "feuds", x.feuds(f, p), o.feuds(f, p));
                break;
            }
            case 11: {
                boolean taken = below(2) == 0;
                CHECK.is(at + "gone", x.gone(f, taken), o.gone(f, taken));
                break;
            }
            case 12: {
                CHECK.is(at + "loss " + f + " " + nights, x.loss(f, nights), o.loss(f, nights));
                break;
            }
            default:
                ask(at, f, nights);
                break;
        }
    }

    private void ask(String at, int f, int nights) {
        int what = anyWhat(1);
        int i = below(8) == 0 ? below(40) - 3 : below(5);
        switch (below(11)) {
            case 0: {
                int row = anyRow();
                CHECK.is(at + "level " + row + " " + f + " " + nights, x.level(row, f, nights), o.level(row, f, nights));
                break;
            }
            case 1: {
                int few = below(3) == 0 ? nights : 1 + below(3);
                CHECK.is(at + "rests " + few, x.rests(few), o.rests(few));
                CHECK.is(at + "rest " + few + " " + i, x.rest(few, i), o.rest(few, i));
                break;
            }
            case 2:
            case 3: {
                int row = anyRow();
                CHECK.is(at + "played " + row + " " + nights + " " + what, x.played(row, nights, what), o.played(row, nights, what));
                break;
            }
            case 4: {
                CHECK.is(at + "firm " + nights, x.firm(nights), o.firm(nights));
                CHECK.is(at + "group " + nights + " " + i, x.group(nights, i, f), o.group(nights, i, f));
                break;
            }
            case 5: {
                CHECK.is(at + "pup " + f + " " + nights, Check.orNoSuch(() -> x.pup(f, nights)), Check.orNoSuch(() -> o.pup(f, nights)));
                break;
            }
            case 6: {
                int wide = below(8) == 0 ? below(8) - 2 : below(20) == 0 ? 0 : 1 + below(4);
                CHECK.is(at + "bite " + wide, x.bite(wide), o.bite(wide));
                break;
            }
            case 7: {
                CHECK.is(at + "whose " + f + " " + what, x.whose(f, what), o.whose(f, what));
                break;
            }
            case 8: {
                CHECK.is(at + "chance " + what, x.chance(what), o.chance(what));
                break;
            }
            case 9: {
                int mark = anyWhat(3);
                boolean back = below(2) == 0;
                CHECK.is(at + "mark " + mark + " " + back, x.mark(mark, back), o.mark(mark, back));
                break;
            }
            default: {
                int which = anyWhat(8);
                CHECK.is(at + "count " + which, x.count(which), o.count(which));
                break;
            }
        }
    }

    private void all(String at) {
        used += farms * 7 + 1;
        for (int f = 0; f < farms; f++) {
            for (int what = 0; what < 7; what++) {
                CHECK.is(at + "farm " + f + " " + what, x.farm(f, what), o.farm(f, what));
            }
        }
        CHECK.is(at + "feuds in all", x.count(7), o.count(7));
    }
}
