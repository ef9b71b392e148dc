import java.util.NoSuchElementException;
import java.util.function.IntSupplier;

/** Counts what is as due and what is not, for every test of the project. */
final class Check {
    static final int NO_SUCH = Integer.MIN_VALUE;

    private int passed = 0;
    private int failed = 0;
    private String sentence = "";
    private int checkedBefore = 0;

    /** The checks from here on are about this sentence of the document; the one before must have had some. */
    void sentence(String quoted) {
        endSentence();
        sentence = quoted;
        checkedBefore = passed + failed;
    }

    private void endSentence() {
        if (!sentence.isEmpty() && passed + failed == checkedBefore) {
            failed++;
            System.out.println("[" + sentence + "] has no check");
        }
        sentence = "";
    }

    void is(String what, long got, long due) {
        if (got == due) {
            passed++;
        } else {
            failed++;
            String about = sentence.isEmpty() ? "" : "[" + sentence + "] ";
            System.out.println(about + what + " answered " + got + ", due is " + due);
        }
    }

    void is(String what, boolean got, boolean due) {
        is(what, got ? 1 : 0, due ? 1 : 0);
    }

    void noSuch(String what, IntSupplier call) {
        is(what + " (least int: NoSuchElementException)", orNoSuch(call), NO_SUCH);
    }

    int failures() {
        return failed;
    }

    /** The last line of a test program; its exit code is 1 if anything was not as due. */
    void close() {
        endSentence();
        System.out.println(passed + " passed, " + failed + " failed");
        if (failed > 0) {
            System.exit(1);
        }
    }

    static int orNoSuch(IntSupplier call) {
        try {
            return call.getAsInt();
        } catch (NoSuchElementException e) {
            return NO_SUCH;
        }
    }

    /** Feeds a text, 24 signs a call. */
    static int tell(WolfHalf x, String text) {
        int on = x.feed(0, 0, 0);
        for (int from = 0; from < text.length(); from += 24) {
            on = x.feed(eight(text, from), eight(text, from + 8), eight(text, from + 16));
        }
        return on;
    }

    static long eight(String text, int from) {
        long bytes = 0;
        for (int i = from; i < from + 8; i++) {
            bytes = bytes << 8 | (i < text.length() ? text.charAt(i) & 255 : 0);
        }
        return bytes;
    }

    static int mountain(WolfHalf x, String text) {
        tell(x, text);
        return x.mountain();
    }
}
