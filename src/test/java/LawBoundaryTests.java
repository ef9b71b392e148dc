/** Terms 1 of the document, E and the FAULTS: each sentence that names a boundary, and both sides of it. */
public final class LawBoundaryTests extends Telling {
    public static void main(String[] args) {
        fromTheLeft();
        oneCompareATest();
        compares();
        within5();
        within5ByWhat();
        factsInFeed();
        factsInGo();
        oneOrZero();
        intsWrap();
        longLaws();
        faultPlaces();
        leftmostFault();
        leastFault();
        secondKind();
        CHECK.close();
    }

    /** What comes of a law; by one more too, as what is below 0 is fed as 0. */
    private static void is(String law, int due) {
        CHECK.is("fed by " + law, fedBy(law), due);
        CHECK.is("fed by 1 + " + law, fedBy("1 + (" + law + ")"), due + 1);
    }

    private static void fromTheLeft() {
        CHECK.sentence("Terms 1: E: TEST { and TEST or or TEST }, from the left");
        is("1 or 0 and 0", 0);
        is("1 or (0 and 0)", 1);
        is("0 and 0 or 1", 1);
        is("0 and (0 or 1)", 0);
        is("0 and 1 or 1 and 0", 0);
        is("1 and 1 and 0 or 0 or 1", 1);
        CHECK.sentence("Terms 1: SUM: PRODUCT { + or - PRODUCT }");
        is("9 - 3 - 2", 4);
        is("9 - (3 - 2)", 8);
        is("9 - 3 + 2", 8);
        is("9 + 3 - 2 - 1 + 4", 13);
        CHECK.sentence("Terms 1: PRODUCT: PART { * PART }");
        is("2 * 3 * 4", 24);
        is("2 + 3 * 4", 14);
        is("(2 + 3) * 4", 20);
        is("2 * 3 + 4", 10);
        is("20 - 2 * 3 * 3 - 1", 1);
        is("not 0 * 5", 5);
        is("5 * not 0", 5);
        is("not 1 + 7", 7);
        is("not (1 + 7)", 0);
        is("not 3 = 0", 1);
        is("not 0 and 0", 0);
    }

    private static void oneCompareATest() {
        CHECK.sentence("Terms 1: TEST: SUM, or SUM < SUM, or SUM = SUM");
        for (String first : new String[] {"<", "="}) {
            told("feed 1 " + first + " 2;");
            told("feed 1 " + first + " 2 and 1 " + first + " 2 or 3 " + first + " 3;");
            for (String second : new String[] {"<", "="}) {
                faultAtLast("feed 1 " + first + " 2 " + second, 1);
                told("feed (1 " + first + " 2) " + second + " 3;");
                told("feed 1 " + first + " (2 " + second + " 3);");
            }
        }
        is("1 + 1 < 2 * 1 + 1", 1);
        is("1 + 2 = 3 * 1", 1);
        is("7 * (1 < 2) + 2 * (2 = 2)", 9);
    }

    private static void compares() {
        CHECK.sentence("Terms 1: Of < and = comes 1 or 0");
        is("4 < 5", 1);
        is("5 < 5", 0);
        is("6 < 5", 0);
        is("4 = 5", 0);
        is("5 = 5", 1);
        is("6 = 5", 0);
        is("0 - 1 < 0", 1);
        is("0 < 0 - 1", 0);
        is("0 - 2 < 0 - 1", 1);
    }

    private static String nots(int many, String part) {
        return "feed " + "not ".repeat(many) + part;
    }

    private static String brackets(int many, String part) {
        return "feed " + "( ".repeat(many) + part + " )".repeat(many) + ";";
    }

    private static void within5() {
        CHECK.sentence("Terms 1: no PART lies within 5 of not and ( ); FAULT 5: not, or a PART, within 5 others");
        String[] parts = {"1", "9999", "flock", "dogs", "hunger", "night"};
        for (String part : parts) {
            told(nots(4, part + ";"));
            fault(nots(5, part + ";"), 5, 5 + 5 * 4);
            told(brackets(4, part));
            fault(brackets(5, part), 5, 5 + 5 * 2);
        }
        for (String part : new String[] {"1", "flock", "dogs", "fence", "hunger", "lean"}) {
            told("go not not not not " + part + ";");
            fault("go not not not not not " + part + ";", 5, 23);
        }
        // the fifth not, and the fifth (, lies within 4 and may stand: what is within it may not; a sixth one may not itself
        fault(nots(5, ";"), 1, 5 + 5 * 4);
        fault(nots(6, "1;"), 5, 5 + 5 * 4);
        fault(brackets(6, "1"), 5, 5 + 5 * 2);
        fault(nots(5, "( 1 );"), 5, 5 + 5 * 4);
        fault("feed ( ( ( ( ( not 1", 5, 15);
        fault(nots(100, "1;"), 5, 5 + 5 * 4);
        fault("feed " + "(".repeat(900), 5, 10);
    }

    private static void within5ByWhat() {
        CHECK.sentence("Terms 1: within 5 of not and ( ): both count, and only those that are still open");
        String[] opens = {"not ", "( "};
        for (int mix = 0; mix < 32; mix++) {
            StringBuilder four = new StringBuilder("feed ");
            StringBuilder closed = new StringBuilder();
            for (int i = 0; i < 4; i++) {
                int kind = mix >> i & 1;
                four.append(opens[kind]);
                closed.append(kind == 1 ? " )" : "");
            }
            told(four + "1" + closed + ";");
            StringBuilder five = new StringBuilder(four).append(opens[mix >> 4]);
            fault(five + "1", 5, five.length());
        }
        told("feed ((((1)))) + ((((1)))) * ((((1)))) < ((((1)))) and ((((1))));");
        told("feed (((1) + (1)) * ((1) + (1)));");
        told("feed not not not not 1 + not not not not 1;");
        told("feed (not not not 1 + not not not 1) * not not not not 1;");
        fault("feed ((((1)))) + (((((1)))));", 5, 22);
        fault("feed not (not not 1 + not not not 1", 5, 34);
        told("feed 1 " + "+ ((((1)))) ".repeat(82) + ";");
    }

    private static void factsInFeed() {
        CHECK.sentence("Terms 1: Facts: in feed: flock, dogs (of HOME), hunger, night (its number)");
        is("flock - 4950", 50);
        is("dogs", 3);
        is("hunger - 50", 49);
        is("night + 1", 1);
        for (String word : "fence lean wolf pact farm home left ann".split(" ")) {
            faultAtLast("feed " + word, 1);
            faultAtLast("feed 1 + " + word, 1);
        }
        WolfHalf x = told(farm("a", 500, 0, 99) + "feed night;");
        for (int night = 0; night < 5; night++) {
            CHECK.is("ahead of night " + night, x.loss(0, 1), night);
            CHECK.is("ahead of night " + night + ", two", x.loss(0, 2), 2 * night + 1);
            x.nights(1);
            CHECK.is("by night " + night, x.gone(0, false), night * (night + 1) / 2);
        }
        WolfHalf home = after(28, farm("a", 90, 1, 9) + farm("b", 80, 2, 0) + "share a b; feed (flock = 80) * (dogs = 2) * (hunger = 9) * 5 * (night = 28);");
        // in night 27 b grew to 88
        home.nights(1);
        CHECK.is("flock of HOME has grown", home.gone(1, false), 0);
        WolfHalf grown = after(29, farm("a", 90, 1, 9) + farm("b", 80, 2, 0) + "share a b; feed (flock = 88) * (dogs = 2) * (hunger = 9) * 5 * (night = 28);");
        CHECK.is("flock, dogs of HOME, the wolf's hunger", grown.gone(1, false), 5);
        CHECK.is("not of its FARM", grown.gone(0, false), 0);
    }

    private static void goes(String law, int due) {
        WolfHalf x = after(1, farm("a", 41, 1, 10) + farm("b", 50, 3, 0) + "fence a b 7; feed 1; go " + law + ";");
        CHECK.is("goes by " + law, x.bones(), due);
    }

    private static void factsInGo() {
        CHECK.sentence("Terms 1: Facts: in go: flock, dogs (of the NEIGHBOUR), fence (to it), hunger (what is LEFT), lean (how many NIGHTS in a row)");
        goes("flock = 50", 1);
        goes("flock = 40", 0);
        goes("dogs = 3", 1);
        goes("dogs = 1", 0);
        goes("fence = 7", 1);
        goes("fence = 6", 0);
        goes("hunger = 9", 1);
        goes("hunger = 10", 0);
        goes("lean = 0", 1);
        goes("lean = 1", 0);
        for (String word : "night wolf pact farm left ann".split(" ")) {
            faultAtLast("go " + word, 1);
            faultAtLast("go 1 + " + word, 1);
        }
        // lean is counted before the night: 0, 1, 2 ..
        for (int lean = 0; lean < 5; lean++) {
            String text = farm("a", 0, 0, 10) + farm("b", 50, 0, 0) + "fence a b 7; go lean = " + lean + ";";
            CHECK.is("lean " + lean + " not yet", after(lean, text).bones(), 0);
            CHECK.is("lean " + lean + " then", after(lean + 1, text).bones(), 1);
        }
    }

    private static void oneOrZero() {
        CHECK.sentence("Terms 1: Of not, and, or, < and = comes 1 or 0; what is not 0 is so");
        String[] so = {"1", "2", "9999", "(0 - 1)", "(0 - 2)"};
        for (String a : so) {
            is("not " + a, 0);
            is(a + " and 0", 0);
            is("0 and " + a, 0);
            is(a + " or 0", 1);
            is("0 or " + a, 1);
            for (String b : so) {
                is(a + " and " + b, 1);
                is(a + " or " + b, 1);
            }
        }
        is("not 0", 1);
        is("0 and 0", 0);
        is("0 or 0", 0);
        is("2 and 4", 1);
        is("2 or 4", 1);
        is("7 < 9", 1);
        is("7 = 7", 1);
        is("not not 7", 1);
    }

    private static void intsWrap() {
        CHECK.sentence("Terms 1: ints wrap");
        String top = "8192 * 8192 * 32";
        is("0 < " + top + " - 1", 1);
        is(top + " - 1 < 0", 0);
        is(top + " < 0", 1);
        is("0 - " + top + " < 0", 1);
        is("0 - 1 - (" + top + " - 1) < 0", 1);
        is("0 < 0 - 1 - " + top, 1);
        is("8192 * 8192 * 64 = 0", 1);
        is("8192 * 8192 * 64 + 7", 7);
        is("8192 * 8192 * 16 + 8192 * 8192 * 16 < 0", 1);
        // 9999 cubed is 999700029999; 233 times 2 to the 32 less it is -1027349969
        is("0 - 1027 * 1000 * 1000 - 349 * 1000 - 969 = 9999 * 9999 * 9999", 1);
        // a law of going is compared as an int too: beyond the top it is below 0
        String fork = farm("a", 0, 0, 9) + farm("b", 50, 0, 0) + farm("c", 60, 0, 0) + "fence a b 1; fence a c 1; go ";
        CHECK.is("the top is the greatest", after(1, fork + "(flock = 50) * (" + top + " - 1) + 5;").bone(0, 1), 2);
        CHECK.is("just the top", after(1, fork + "(flock = 50) * (" + top + " - 2) + 1;").bone(0, 1), 1);
        CHECK.is("beyond it, none is above 0", after(1, fork + top + ";").bones(), 0);
    }

    private static void longLaws() {
        CHECK.sentence("Terms 1: E of as many PARTS as the TAPE holds");
        String head = farm("a", 999, 0, 99);
        int room = 1000 - head.length() - "feed 1;".length();
        CHECK.is("a long sum", after(1, head + "feed 1" + "+0".repeat(room / 2 - 3) + "+1+1+1;").gone(0, false), 4);
        CHECK.is("a long product", after(1, head + "feed 7" + "*1".repeat(room / 2) + ";").gone(0, false), 7);
        CHECK.is("a long row of tests", after(1, head + "feed 0" + " or 0".repeat(room / 5 - 1) + " or 5;").gone(0, false), 1);
        String many = "farm a flock 999 dogs 0 wolf 99;feed 1" + "+1".repeat(40) + "*1".repeat(440) + ";";
        CHECK.is("forty-one", after(1, many).gone(0, false), 41);
    }

    private static void faultPlaces() {
        CHECK.sentence("Terms 1: FAULTS: kind + 16 * the place (from 0) of a token, the end being one at the text's length");
        fault("?", 1, 0);
        fault("  ?", 1, 2);
        fault("farm", 1, 4);
        fault("farm ", 1, 5);
        fault("farm \n ", 1, 7);
        fault("feed 1", 1, 6);
        fault("feed 1 ", 1, 7);
        fault("feed", 1, 4);
        fault("feed (", 1, 6);
        fault("feed (1", 1, 7);
        fault("feed not", 1, 8);
        fault("feed 1 +", 1, 8);
        fault("feed 1 *", 1, 8);
        fault("feed 1 <", 1, 8);
        fault("feed 1 and", 1, 10);
        fault("feed 1 or", 1, 9);
        String[] words = (farm("a", 1, 2, 3) + farm("b", 1, 2, 3) + "fence a b 1 ; pact a b ; share a b ; tooth a 1 2 3 4 ; feed 1 + 2 ; go 1 < 2 ;")
            .replace(";", " ;").replace("  ", " ").split(" ");
        StringBuilder text = new StringBuilder();
        for (String word : words) {
            boolean whole = text.length() == 0 || text.charAt(text.length() - 1) == ';';
            WolfHalf x = new WolfHalf();
            CHECK.is("the end behind " + text, Check.mountain(x, text.toString()), whole ? 0 : 1 + 16 * text.length());
            WolfHalf none = new WolfHalf();
            CHECK.is("no token behind " + text, Check.mountain(none, text + " ?"), 1 + 16 * (text.length() + 1));
            text.append(text.length() == 0 ? "" : " ").append(word);
        }
        fault("a".repeat(1000), 1, 0);
        fault(" ".repeat(995) + "feed ", 1, 1000);
        fault(" ".repeat(999) + ";", 1, 999);
    }

    private static void leftmostFault() {
        CHECK.sentence("Terms 1: FAULTS: of the first token from the left that is wrong");
        String two = farm("a", 1, 1, 1) + farm("b", 1, 1, 1);
        // the left one counts, though the right one's kind is less
        fault(two + "fence c ?", 2, two.length() + 6);
        fault(two + "fence c c", 2, two.length() + 6);
        fault(two + "fence c farm", 2, two.length() + 6);
        fault(two + "fence a a 100;", 3, two.length() + 8);
        fault(two + "fence a b 100 ?", 4, two.length() + 10);
        fault("farm a flock 1 dogs 10 wolf 100;", 4, 20);
        fault("farm a flock 1 dogs 10 ?", 4, 20);
        fault("farm farm flock ?", 1, 5);
        fault("feed not not not not not 1 ?", 5, 25);
        fault("feed lean + fence;", 1, 5);
        fault(two + "share a b; share a c;", 3, two.length() + 17);
        fault(two + "tooth a 1 1 1 1; tooth a 0 0 0 0;", 3, two.length() + 23);
        fault(two + "tooth a 10 0 0 0;", 4, two.length() + 8);
        fault("feed 1; feed 12345;", 3, 8);
    }

    private static void leastFault() {
        CHECK.sentence("Terms 1: FAULTS: of the first token that is wrong the least");
        // what can't stand within 5 others is of kind 1, not 5
        for (String wrong : new String[] {"lean", "fence", "ann", ")", ";", "+", "<", "and", "12345", "abcdefghi", "?", ""}) {
            fault(nots(5, wrong), 1, 25);
            fault("feed ( ( ( ( ( " + wrong, 1, 15);
        }
        for (String wrong : new String[] {"night", "ann", ")", "12345", ""}) {
            fault("go ( ( ( ( ( " + wrong, 1, 13);
        }
        // what can't stand as a NAME, or is no token, is of kind 1, not 2
        String two = farm("a", 1, 1, 1) + farm("b", 1, 1, 1);
        for (String wrong : new String[] {"flock", "abcdefghi", "1", "?", ";"}) {
            fault(two + "pact " + wrong, 1, two.length() + 5);
            fault(two + "pact a " + wrong, 1, two.length() + 7);
        }
        // a longer NUMBER is none: kind 1, not 4
        fault("farm a flock 10000", 1, 13);
    }

    private static void secondKind() {
        CHECK.sentence("Terms 1: FAULT 2 a NAME of no FARM told (but behind farm)");
        String two = farm("a", 1, 1, 1) + farm("b", 1, 1, 1);
        told(farm("c", 1, 1, 1));
        for (String line : new String[] {"fence c", "fence a c", "pact c", "pact a c", "share c", "share a c", "tooth c"}) {
            faultAtLast(two + line, 2);
        }
        // where no NAME can stand it is of kind 1
        for (String line : new String[] {"c", "fence a b c", "pact a b c", "tooth a c", "feed c", "feed 1 c", "farm c c"}) {
            faultAtLast(two + line, 1);
        }
    }
}
