import java.util.ArrayList;
import java.util.List;
import java.util.Random;

/** Makes up mountains: mostly without a fault, some spoilt in one place. */
final class Stories {
    private static final String[] NAMES = {"ann", "bob", "cat", "dan", "eve", "fay", "hunger", "night", "lean", "abcdefgh", "z"};
    private static final String[] ODD = {
        "farm", "flock", "dogs", "wolf", "fence", "pact", "share", "tooth", "feed", "go", "not", "and", "or", "hunger", "night",
        "lean", "ann", "bob", "zed", "abcdefghi", "0", "7", "12", "100", "9999", "12345", "(", ")", "<", "=", "+", "-", "*", ";",
        "?", "A", ",", "1a", "a1", "\n"
    };

    private final Random random;

    Stories(Random random) {
        this.random = random;
    }

    private int below(int m) {
        return random.nextInt(m);
    }

    private String one(String... of) {
        return of[below(of.length)];
    }

    String mountain(int farms) {
        List<String> lines = new ArrayList<>();
        List<String> names = new ArrayList<>();
        int first = below(NAMES.length);
        for (int f = 0; f < farms; f++) {
            names.add(NAMES[(first + f) % NAMES.length]);
        }
        boolean alike = below(3) == 0;
        int flock = below(60);
        for (String name : names) {
            int own = alike ? flock : below(4) == 0 ? below(10000) : below(60);
            int wolf = below(4) == 0 ? 0 : below(8) == 0 ? 99 - below(3) : below(25);
            lines.add("farm " + name + " flock " + own + " dogs " + (below(3) == 0 ? below(10) : below(3)) + " wolf " + wolf + " ;");
        }
        int dense = 1 + below(4);
        for (int a = 0; a < farms; a++) {
            for (int b = a + 1; b < farms; b++) {
                boolean turned = below(2) == 0;
                String pair = " " + names.get(turned ? b : a) + " " + names.get(turned ? a : b) + " ";
                if (below(4) < dense) {
                    lines.add("fence" + pair + (below(2) == 0 ? below(100) : below(4)) + " ;");
                }
                if (below(6) == 0) {
                    lines.add("pact" + pair + ";");
                }
            }
            if (farms > 1 && below(3) == 0) {
                lines.add("share " + names.get(a) + " " + names.get((a + 1 + below(farms - 1)) % farms) + " ;");
            }
            if (below(3) == 0) {
                lines.add("tooth " + names.get(a) + " " + (below(2) == 0 ? 0 : 9 - below(9)) + " " + below(10) + " " + below(4) + " " + (1 + below(9)) + " ;");
            }
        }
        if (below(2) == 0) {
            lines.add("feed " + law(0, true) + " ;");
        }
        if (below(2) == 0) {
            lines.add("go " + law(0, false) + " ;");
        }
        String text = String.join(one(" ", "\n", "  "), lines);
        if (below(3) == 0) {
            text = text.replace(" ;", ";");
        }
        return below(5) == 0 ? spoilt(text) : text;
    }

    private String law(int in, boolean feed) {
        StringBuilder e = new StringBuilder(test(in, feed));
        for (int i = below(5) - 2; i > 0; i--) {
            e.append(one(" and ", " or ")).append(test(in, feed));
        }
        return e.toString();
    }

    private String test(int in, boolean feed) {
        return below(4) == 0 ? sum(in, feed) + one(" < ", "=", "<", " = ") + sum(in, feed) : sum(in, feed);
    }

    private String sum(int in, boolean feed) {
        StringBuilder e = new StringBuilder(product(in, feed));
        for (int i = below(4) - 1; i > 0; i--) {
            e.append(one(" + ", "-", "+", " - ")).append(product(in, feed));
        }
        return e.toString();
    }

    private String product(int in, boolean feed) {
        StringBuilder e = new StringBuilder(part(in, feed));
        for (int i = below(5) == 0 ? 1 + below(3) : 0; i > 0; i--) {
            e.append(one(" * ", "*")).append(part(in, feed));
        }
        return e.toString();
    }

    private String part(int in, boolean feed) {
        int deepest = below(40) == 0 ? 6 : 3;
        int kind = below(in > deepest ? 7 : 10);
        if (kind < 2) {
            return "" + (below(4) == 0 ? below(10000) : below(6));
        }
        if (kind < 7) {
            return feed ? one("flock", "dogs", "hunger", "night") : one("flock", "dogs", "fence", "hunger", "lean");
        }
        return kind == 7 ? "not " + part(in + 1, feed) : "(" + law(in + 1, feed) + ")";
    }

    private String spoilt(String text) {
        String[] words = text.split(" ");
        int at = below(words.length);
        switch (below(5)) {
            case 0:
                words[at] = one(ODD);
                break;
            case 1:
                words[at] = words[at] + " " + one(ODD);
                break;
            case 2:
                words[at] = "";
                break;
            case 3:
                words[at] = words[below(words.length)];
                break;
            default:
                return text.substring(0, below(text.length() + 1));
        }
        return String.join(" ", words);
    }
}
