/** Terms 1 of the document, the TAPE and its TOKENS: each sentence that names a boundary, and both sides of it. */
public final class TapeBoundaryTests extends Telling {
    public static void main(String[] args) {
        mostSigns();
        signsBeyondAreLeftOut();
        whichSigns();
        orderOfSigns();
        emptyBehindReading();
        asLongAsCanBe();
        blanks();
        words();
        numbers();
        signs();
        CHECK.close();
    }

    private static int feedOne(WolfHalf x, int code) {
        return x.feed((long) code << 56, 0, 0);
    }

    private static void mostSigns() {
        CHECK.sentence("Terms 1: The TAPE has at most 1,000 signs");
        WolfHalf x = new WolfHalf();
        CHECK.is("999 signs", Check.tell(x, "a".repeat(999)), 999);
        CHECK.is("the thousandth", feedOne(x, 'a'), 1000);
        CHECK.is("one more", feedOne(x, 'a'), 1000);
        CHECK.is("count", x.count(8), 1000);
        WolfHalf at = new WolfHalf();
        Check.tell(at, "a".repeat(990));
        CHECK.is("24 at 990", Check.tell(at, "b".repeat(24)), 1000);
        WolfHalf fits = new WolfHalf();
        Check.tell(fits, "a".repeat(976));
        CHECK.is("24 at 976", Check.tell(fits, "b".repeat(24)), 1000);
    }

    private static void signsBeyondAreLeftOut() {
        CHECK.sentence("Promise 2: what is beyond 1,000, are left out");
        WolfHalf last = new WolfHalf();
        Check.tell(last, " ".repeat(993) + "feed 1;" + "?");
        CHECK.is("the thousandth sign is read, the next is not", last.mountain(), 0);
        WolfHalf cut = new WolfHalf();
        Check.tell(cut, " ".repeat(994) + "feed 1;");
        CHECK.is("the sign behind 1,000 is not there", cut.mountain(), 1 + 16 * 1000);
        WolfHalf wrong = new WolfHalf();
        Check.tell(wrong, " ".repeat(999) + "?");
        CHECK.is("a wrong sign at the thousandth place", wrong.mountain(), 1 + 16 * 999);
    }

    private static void whichSigns() {
        CHECK.sentence("Terms 1: signs, 10 and 32 .. 126; Promise 2: others than 10 and 32 .. 126 are left out");
        for (int code = 0; code < 256; code++) {
            boolean counts = code == 10 || code >= 32 && code <= 126;
            CHECK.is("the byte " + code, feedOne(new WolfHalf(), code), yes(counts));
        }
        CHECK.is("31, 32, 126, 127, 9, 10, 11, 255", new WolfHalf().feed(0x1F207E7F090A0BFFL, 0, 0), 3);
        CHECK.is("what is left out leaves no gap", Check.mountain(new WolfHalf(), "fe\u0009ed\u001F\u007F 1;"), 0);
    }

    private static void orderOfSigns() {
        CHECK.sentence("Promise 2: Up to 24 signs come behind the TAPE: the bytes of a, b, c, of each the highest first");
        String[] ahead = {"", "f", "fe", "fee", "feed", "feed ", "feed 1", "feed 1;feed"};
        for (String text : ahead) {
            WolfHalf x = new WolfHalf();
            Check.tell(x, text);
            CHECK.is("behind " + text, Check.tell(x, "abcdefghijklmnopqrstuvwx"), text.length() + 24);
        }
        // the place of the only wrong sign tells where each byte came to stand
        for (int place = 0; place < 24; place++) {
            WolfHalf x = new WolfHalf();
            Check.tell(x, " ".repeat(place) + "?" + " ".repeat(23 - place));
            CHECK.is("the byte " + place, x.mountain(), 1 + 16 * place);
        }
        CHECK.is("none", new WolfHalf().feed(0, 0, 0), 0);
        CHECK.is("one in b", new WolfHalf().feed(0, 'a', 0), 1);
        CHECK.is("one in c", new WolfHalf().feed(0, 0, (long) 'a' << 56), 1);
        CHECK.is("24", new WolfHalf().feed(0x6161616161616161L, 0x6161616161616161L, 0x6161616161616161L), 24);
        CHECK.is("negative longs", new WolfHalf().feed(-1, LEAST, Long.MIN_VALUE), 0);
    }

    private static void emptyBehindReading() {
        CHECK.sentence("Terms 1: what reads it takes it: it is empty then");
        WolfHalf x = new WolfHalf();
        Check.tell(x, "feed 1;");
        CHECK.is("before", x.count(8), 7);
        CHECK.is("read", x.mountain(), 0);
        CHECK.is("empty", x.count(8), 0);
        CHECK.is("the next sign is the first", feedOne(x, '?'), 1);
        CHECK.is("read with a FAULT", x.mountain(), 1);
        CHECK.is("empty behind a FAULT", x.count(8), 0);
        CHECK.is("nothing of it is read again", x.mountain(), 0);
        Check.tell(x, "b".repeat(1000));
        CHECK.is("a full TAPE", x.mountain(), 1);
        CHECK.is("empty behind a full one", x.count(8), 0);
        CHECK.is("there is room again", feedOne(x, 'a'), 1);
    }

    private static void asLongAsCanBe() {
        CHECK.sentence("Terms 1: TOKENS, each as long as can be");
        fault("farma flock 1 dogs 1 wolf 1;", 1, 0);
        fault("feed hungernot 1;", 1, 5);
        fault("feed 1 and2 3;", 1, 12);
        String two = farm("a", 1, 1, 1) + farm("ab", 1, 1, 1);
        told(two + "pact a ab;");
        fault(two + "pact aab;", 2, two.length() + 5);
        CHECK.is("12 is one NUMBER", fedBy("12"), 12);
        fault("feed 1 2;", 1, 7);
        fault("feed 12 34;", 1, 8);
    }

    private static void blanks() {
        CHECK.sentence("Terms 1: blanks (10, 32) between where one likes");
        told("farm a flock 1 dogs 2 wolf 3;");
        told("farm a flock1dogs2wolf3;");
        told("\n \n farm\na\n\n flock\n1 dogs 2\nwolf 3 \n ; \n");
        told("feed(1)+(2)<(3)or(4);");
        told("feed ( 1 ) + ( 2 ) < ( 3 ) or ( 4 ) ;");
        told("feed 1;go 1;");
        fault("fe ed 1;", 1, 0);
        fault("farm a fl ock 1 dogs 1 wolf 1;", 1, 7);
        fault("feed 1 2;", 1, 7);
        told(" ".repeat(1000));
        told("\n".repeat(1000));
    }

    private static void words() {
        CHECK.sentence("Terms 1: WORDS (letters a .. z, 8 at most)");
        told(farm("a", 1, 1, 1) + farm("z", 1, 1, 1));
        told(farm("abcdefg", 1, 1, 1));
        told(farm("abcdefgh", 1, 1, 1));
        fault(farm("abcdefghi", 1, 1, 1), 1, 5);
        fault(farm("abcdefghijklmnopqrstuvwxyz", 1, 1, 1), 1, 5);
        for (char wrong : new char[] {'`', '{', 'A', 'Z', '@', '[', '_'}) {
            fault(farm("" + wrong, 1, 1, 1), 1, 5);
            fault(farm("a" + wrong, 1, 1, 1), 1, 6);
        }
        CHECK.sentence("Terms 1: All else (a longer WORD, too, at its first sign) is none");
        fault("abcdefghi", 1, 0);
        fault("  zzzzzzzzz farm", 1, 2);
        fault("feed 1;  flockflock 1;", 1, 9);
        // of a longer WORD neither its first 8 letters nor its last ones are one
        fault("farmfarmx", 1, 0);
        fault("feed hungerxxx;", 1, 5);
        String named = farm("abcdefgh", 1, 1, 1) + farm("bcdefghi", 1, 1, 1);
        fault(named + "pact abcdefghi bcdefghi;", 1, named.length() + 5);
        CHECK.sentence("Terms 1: WORDS: all 8 letters count");
        told(farm("abcdefgh", 1, 1, 1) + farm("abcdefgi", 1, 1, 1) + farm("bbcdefgh", 1, 1, 1) + farm("abcdefg", 1, 1, 1));
    }

    private static void numbers() {
        CHECK.sentence("Terms 1: NUMBERS (1 to 4 digits)");
        CHECK.is("one digit", fedBy("7"), 7);
        CHECK.is("two digits", fedBy("17"), 17);
        CHECK.is("four digits", fedBy("9999 - 9901"), 98);
        CHECK.is("four digits, the first 0", fedBy("0098"), 98);
        CHECK.is("the digits 0 and 9", fedBy("0000 + 0009 + 0090"), 99);
        fault("feed 10000;", 1, 5);
        fault("feed 00000;", 1, 5);
        fault("feed 1 + 00001;", 1, 9);
        fault("feed 12345678901234567890;", 1, 5);
        fault("feed /;", 1, 5);
        fault("feed :;", 1, 5);
        fault("feed 1/;", 1, 6);
        fault("feed 1:;", 1, 6);
        CHECK.sentence("Terms 1: All else (a longer NUMBER, too, at its first sign) is none");
        fault("farm a flock 12345 dogs 1 wolf 1;", 1, 13);
        fault("farm a flock 99991dogs 1 wolf 1;", 1, 13);
        CHECK.sentence("Terms 1: NUMBERS (a letter may stand right behind)");
        told("farm a flock 9dogs 9wolf 9;");
        told("farm a flock 9999dogs 9wolf 99;");
        told("feed 1and 2or 3;");
        fault("feed 1a;", 1, 6);
        fault("feed 12345and 1;", 1, 5);
    }

    private static void signs() {
        CHECK.sentence("Terms 1: the signs ( ) < = + - * ;  All else is none");
        String[] laws = {"(1)", "1<1", "1=1", "1+1", "1-1", "1*1"};
        for (String law : laws) {
            told("feed " + law + ";");
        }
        for (int code = 33; code <= 126; code++) {
            char sign = (char) code;
            boolean letter = sign >= 'a' && sign <= 'z';
            boolean digit = sign >= '0' && sign <= '9';
            boolean joins = "<=+-*".indexOf(sign) >= 0;
            if (joins) {
                told("feed 1 " + sign + " 1;");
            } else if (sign != ';' && !letter && !digit) {
                fault("feed 1 " + sign + " 1;", 1, 7);
            }
        }
        fault("feed 1 <= 2;", 1, 8);
        fault("feed 1 == 2;", 1, 8);
        fault("feed 1 ** 2;", 1, 8);
        fault("feed 1;;", 1, 7);
        fault(";", 1, 0);
    }
}
