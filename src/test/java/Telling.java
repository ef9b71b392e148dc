/** What the tests by hand share: mountains told to new objects, and what is due of them. */
abstract class Telling {
    static final int NONE = -1;
    static final int LEAST = Integer.MIN_VALUE;
    static final int MOST = Integer.MAX_VALUE;
    static final Check CHECK = new Check();

    static WolfHalf told(String text) {
        WolfHalf x = new WolfHalf();
        CHECK.is("mountain " + text, Check.mountain(x, text), 0);
        return x;
    }

    /** A mountain on which so many nights have gone by. */
    static WolfHalf after(int nights, String text) {
        WolfHalf x = told(text);
        x.nights(nights);
        return x;
    }

    static String farm(String name, int flock, int dogs, int wolf) {
        return "farm " + name + " flock " + flock + " dogs " + dogs + " wolf " + wolf + "; ";
    }

    /** So many farms without a dog or a fence: a, b, c .. */
    static String calm(int farms, int hunger) {
        StringBuilder all = new StringBuilder();
        for (int f = 0; f < farms; f++) {
            all.append(farm("" + (char) ('a' + f), 50, 0, hunger));
        }
        return all.toString();
    }

    /** What the law of feeding makes of a flock of 5000, 3 dogs, hunger 99, night 0; 0 to 99 of it are seen. */
    static int fedBy(String law) {
        return after(1, farm("a", 5000, 3, 99) + "feed " + law + ";").gone(0, false);
    }

    static void fault(String text, int kind, int place) {
        WolfHalf x = new WolfHalf();
        CHECK.is("mountain " + text, Check.mountain(x, text), kind + 16 * place);
        CHECK.is("tape behind " + text, x.count(8), 0);
        CHECK.is("farms behind " + text, x.count(0), 0);
    }

    /** A fault in the last token of the text. */
    static void faultAtLast(String text, int kind) {
        fault(text, kind, text.lastIndexOf(' ') + 1);
    }

    static int yes(boolean so) {
        return so ? 1 : 0;
    }
}
