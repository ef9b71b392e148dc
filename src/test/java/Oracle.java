import java.util.ArrayList;
import java.util.Arrays;
import java.util.HashMap;
import java.util.List;
import java.util.Map;
import java.util.NoSuchElementException;
import java.util.Set;

/** The document once more, written for plainness alone and in another way: what WolfHalf answers is held against it. */
final class Oracle {
    static final int NONE = -1;
    private static final Set<String> NO_NAMES = Set.of(
        "farm", "flock", "dogs", "wolf", "fence", "pact", "share", "tooth", "feed", "go", "not", "and", "or");

    private interface Expr {
        int of(Map<String, Integer> facts);
    }

    private record Token(char kind, String text, int place) {
    }

    private static final class Fault extends Exception {
        private static final long serialVersionUID = 1;

        final int code;

        Fault(int kind, Token at) {
            code = kind + 16 * at.place;
        }
    }

    private static final class Told {
        List<String> names = new ArrayList<>();
        List<int[]> farms = new ArrayList<>();
        Map<Set<Integer>, Integer> fences = new HashMap<>();
        List<Set<Integer>> pacts = new ArrayList<>();
        Map<Integer, Integer> shares = new HashMap<>();
        Map<Integer, int[]> teeth = new HashMap<>();
        Expr feed = null;
        Expr go = null;
    }

    private static final class State {
        Told told = new Told();
        int night = 0;
        long g = 0;
        int[] flock = new int[0];
        int[] hunger = new int[0];
        int[] lean = new int[0];
        int[] fed = new int[0];
        int[] taken = new int[0];
        boolean[][] pact = new boolean[0][0];
        int[][] feuds = new int[0][0];
        List<int[]> bones = new ArrayList<>();
        List<Integer> bites = new ArrayList<>();
        int[] levels = null;

        State copy() {
            State c = new State();
            c.told = told;
            c.night = night;
            c.g = g;
            c.flock = flock.clone();
            c.hunger = hunger.clone();
            c.lean = lean.clone();
            c.fed = fed.clone();
            c.taken = taken.clone();
            c.pact = Arrays.stream(pact).map(boolean[]::clone).toArray(boolean[][]::new);
            c.feuds = Arrays.stream(feuds).map(int[]::clone).toArray(int[][]::new);
            c.bones = new ArrayList<>(bones);
            c.bites = new ArrayList<>(bites);
            return c;
        }

        int farms() {
            return told.names.size();
        }

        int dogs(int f) {
            return told.farms.get(f)[1];
        }

        int home(int w) {
            return night / 28 % 2 == 0 ? w : told.shares.getOrDefault(w, w);
        }

        List<Integer> neighbours(int f) {
            List<Integer> all = new ArrayList<>();
            for (int o = 0; o < farms(); o++) {
                if (o != f && told.fences.containsKey(Set.of(f, o)) && !pact[f][o]) {
                    all.add(o);
                }
            }
            return all;
        }

        void oneNight() {
            for (int w = 0; w < farms(); w++) {
                if (hunger[w] > 0) {
                    wolf(w);
                }
            }
            if ((night + 1) % 28 == 0) {
                for (int f = 0; f < farms(); f++) {
                    flock[f] = Math.min(9999, flock[f] + flock[f] / 10);
                }
            }
            night++;
        }

        private void wolf(int w) {
            int h = home(w);
            int e;
            if (levels != null) {
                e = levels[h];
            } else if (told.feed == null) {
                e = 0;
            } else {
                e = told.feed.of(Map.of("flock", flock[h], "dogs", dogs(h), "hunger", hunger[w], "night", night));
            }
            e = Math.max(e, 0);
            e = Math.min(e, flock[h]);
            e = Math.min(e, hunger[w]);
            flock[h] -= e;
            fed[h] += e;
            int left = hunger[w] - e;
            int took = 0;
            int to = NONE;
            if (left > 0) {
                int top = 0;
                List<Integer> best = new ArrayList<>();
                for (int o : neighbours(h)) {
                    int v = told.go == null ? flock[o] : told.go.of(Map.of("flock", flock[o], "dogs", dogs(o),
                        "fence", told.fences.get(Set.of(h, o)), "hunger", left, "lean", lean[w]));
                    if (v > 0 && v >= top) {
                        if (v > top) {
                            best.clear();
                        }
                        top = v;
                        best.add(o);
                    }
                }
                if (best.size() == 1) {
                    to = best.get(0);
                } else if (best.size() > 1) {
                    g = Math.floorMod(g * 1103515245L + 12345, 1L << 31);
                    to = best.get((int) ((g >> 16) % best.size()));
                }
            }
            if (to != NONE) {
                took = Math.min(flock[to], Math.max(0, (left + 1) / 2 - dogs(to)));
                flock[to] -= took;
                taken[to] += took;
                if (took > 0) {
                    bones.add(new int[] {night, to, w, took});
                }
            }
            if ((e + took) * 2 < hunger[w]) {
                lean[w]++;
            } else {
                lean[w] = 0;
            }
            if (to != NONE && lean[w] >= 3) {
                lean[w] = 0;
                feuds[h][to]++;
                feuds[to][h]++;
            }
        }
    }

    private String tape = "";
    private State now = new State();
    private final State[] marks = new State[4];

    int feed(long a, long b, long c) {
        StringBuilder more = new StringBuilder(tape);
        for (long l : new long[] {a, b, c}) {
            for (int i = 7; i >= 0; i--) {
                int v = (int) (l >> 8 * i & 0xFF);
                if (more.length() < 1000 && (v == 10 || v > 31 && v < 127)) {
                    more.append((char) v);
                }
            }
        }
        tape = more.toString();
        return tape.length();
    }

    // ---- the language

    private List<Token> tokens;
    private int next;
    private Set<String> facts;

    private static List<Token> tokensOf(String text) {
        List<Token> all = new ArrayList<>();
        int i = 0;
        while (i < text.length()) {
            String rest = text.substring(i);
            int size = 1;
            char kind = '?';
            if (rest.charAt(0) == ' ' || rest.charAt(0) == '\n') {
                i++;
                continue;
            }
            int letters = (int) rest.chars().takeWhile(c -> c >= 'a' && c <= 'z').count();
            int digits = (int) rest.chars().takeWhile(c -> c >= '0' && c <= '9').count();
            if (letters > 0) {
                size = letters;
                kind = size <= 8 ? 'w' : '?';
            } else if (digits > 0) {
                size = digits;
                kind = size <= 4 ? 'n' : '?';
            } else if ("()<=+-*;".indexOf(rest.charAt(0)) >= 0) {
                kind = 's';
            }
            all.add(new Token(kind, rest.substring(0, size), i));
            i += size;
        }
        all.add(new Token('e', "", text.length()));
        return all;
    }

    private Token look() {
        return tokens.get(next);
    }

    private Token take() {
        return tokens.get(next++);
    }

    private boolean at(String text) {
        return look().kind != '?' && look().kind != 'e' && look().text.equals(text);
    }

    private void must(String text) throws Fault {
        if (!at(text)) {
            throw new Fault(1, look());
        }
        take();
    }

    private Token name() throws Fault {
        if (look().kind != 'w' || NO_NAMES.contains(look().text)) {
            throw new Fault(1, look());
        }
        return look();
    }

    private int told(Told t, int notThis) throws Fault {
        Token n = name();
        int f = t.names.indexOf(n.text);
        if (f < 0) {
            throw new Fault(2, n);
        }
        if (f == notThis) {
            throw new Fault(3, n);
        }
        return f;
    }

    private int number(int most) throws Fault {
        if (look().kind != 'n') {
            throw new Fault(1, look());
        }
        int v = Integer.parseInt(look().text);
        if (v > most) {
            throw new Fault(4, look());
        }
        take();
        return v;
    }

    int mountain() {
        tokens = tokensOf(tape);
        next = 0;
        tape = "";
        Told t = new Told();
        try {
            while (look().kind != 'e') {
                statement(t);
            }
        } catch (Fault f) {
            return f.code;
        }
        State s = new State();
        int n = t.names.size();
        s.told = t;
        s.flock = t.farms.stream().mapToInt(f -> f[0]).toArray();
        s.hunger = t.farms.stream().mapToInt(f -> f[2]).toArray();
        s.lean = new int[n];
        s.fed = new int[n];
        s.taken = new int[n];
        s.pact = new boolean[n][n];
        s.feuds = new int[n][n];
        for (Set<Integer> p : t.pacts) {
            for (int a : p) {
                for (int b : p) {
                    s.pact[a][b] |= a != b;
                }
            }
        }
        now = s;
        Arrays.fill(marks, null);
        return 0;
    }

    private void statement(Told t) throws Fault {
        Token head = look();
        if (at("farm")) {
            if (t.names.size() == 6) {
                throw new Fault(5, head);
            }
            take();
            Token n = name();
            if (t.names.contains(n.text)) {
                throw new Fault(3, n);
            }
            take();
            must("flock");
            int flock = number(9999);
            must("dogs");
            int dogs = number(9);
            must("wolf");
            int wolf = number(99);
            must(";");
            t.names.add(n.text);
            t.farms.add(new int[] {flock, dogs, wolf});
        } else if (at("fence") || at("pact")) {
            take();
            int a = told(t, NONE);
            take();
            int b = told(t, a);
            boolean fence = head.text.equals("fence");
            if (fence ? t.fences.containsKey(Set.of(a, b)) : t.pacts.contains(Set.of(a, b))) {
                throw new Fault(3, look());
            }
            take();
            if (fence) {
                t.fences.put(Set.of(a, b), number(99));
            } else {
                t.pacts.add(Set.of(a, b));
            }
            must(";");
        } else if (at("share")) {
            take();
            int a = told(t, NONE);
            if (t.shares.containsKey(a)) {
                throw new Fault(3, look());
            }
            take();
            int b = told(t, a);
            take();
            must(";");
            t.shares.put(a, b);
        } else if (at("tooth")) {
            take();
            int a = told(t, NONE);
            if (t.teeth.containsKey(a)) {
                throw new Fault(3, look());
            }
            take();
            int[] often = {number(9), number(9), number(9), 0};
            Token last = look();
            often[3] = number(9);
            if (Arrays.stream(often).sum() == 0) {
                throw new Fault(4, last);
            }
            must(";");
            t.teeth.put(a, often);
        } else if (at("feed") || at("go")) {
            boolean feed = at("feed");
            if ((feed ? t.feed : t.go) != null) {
                throw new Fault(3, head);
            }
            take();
            facts = feed ? Set.of("flock", "dogs", "hunger", "night") : Set.of("flock", "dogs", "fence", "hunger", "lean");
            Expr e = whole(0);
            must(";");
            if (feed) {
                t.feed = e;
            } else {
                t.go = e;
            }
        } else {
            throw new Fault(1, head);
        }
    }

    private static int bool(boolean b) {
        return b ? 1 : 0;
    }

    private Expr whole(int in) throws Fault {
        Expr e = test(in);
        while (at("and") || at("or")) {
            boolean and = take().text.equals("and");
            Expr l = e;
            Expr r = test(in);
            e = and ? f -> bool(l.of(f) != 0 & r.of(f) != 0) : f -> bool(l.of(f) != 0 | r.of(f) != 0);
        }
        return e;
    }

    private Expr test(int in) throws Fault {
        Expr l = sum(in);
        if (at("<")) {
            take();
            Expr r = sum(in);
            return f -> bool(l.of(f) < r.of(f));
        }
        if (at("=")) {
            take();
            Expr r = sum(in);
            return f -> bool(l.of(f) == r.of(f));
        }
        return l;
    }

    private Expr sum(int in) throws Fault {
        Expr e = product(in);
        while (at("+") || at("-")) {
            int sign = take().text.equals("+") ? 1 : -1;
            Expr l = e;
            Expr r = product(in);
            e = f -> l.of(f) + sign * r.of(f);
        }
        return e;
    }

    private Expr product(int in) throws Fault {
        Expr e = part(in);
        while (at("*")) {
            take();
            Expr l = e;
            Expr r = part(in);
            e = f -> l.of(f) * r.of(f);
        }
        return e;
    }

    private Expr part(int in) throws Fault {
        Token t = look();
        boolean fact = t.kind == 'w' && facts.contains(t.text);
        if (!fact && t.kind != 'n' && !at("not") && !at("(")) {
            throw new Fault(1, t);
        }
        if (in > 4) {
            throw new Fault(5, t);
        }
        take();
        if (fact) {
            return f -> f.get(t.text);
        }
        if (t.kind == 'n') {
            return f -> Integer.parseInt(t.text);
        }
        if (t.text.equals("not")) {
            Expr e = part(in + 1);
            return f -> bool(e.of(f) == 0);
        }
        Expr e = whole(in + 1);
        must(")");
        return e;
    }

    // ---- what is asked

    private boolean ok(int f) {
        return f >= 0 && f < now.farms();
    }

    private static int bits(List<Integer> all) {
        return all.stream().mapToInt(f -> 1 << f).sum();
    }

    int farm(int f, int what) {
        if (!ok(f) || what < 0 || what > 6) {
            return NONE;
        }
        List<Integer> pacts = new ArrayList<>();
        for (int o = 0; o < now.farms(); o++) {
            if (now.pact[f][o]) {
                pacts.add(o);
            }
        }
        return new int[] {now.flock[f], now.dogs(f), now.hunger[f], now.lean[f], now.home(f), bits(now.neighbours(f)), bits(pacts)}[what];
    }

    private int often(int f, int wide) {
        return now.told.teeth.getOrDefault(f, new int[] {1, 1, 1, 1})[wide - 1];
    }

    int tooth(int f, int wide) {
        return ok(f) && wide > 0 && wide < 5 ? often(f, wide) : NONE;
    }

    boolean seed(int s) {
        if (s >= 0 && s < 10000) {
            now.g = s;
            return true;
        }
        return false;
    }

    int nights(int many) {
        if (many < 1 || many > 1000) {
            return NONE;
        }
        for (int i = 0; i < many; i++) {
            now.oneNight();
        }
        return now.night;
    }

    boolean pact(int a, int b, boolean made) {
        if (!ok(a) || !ok(b) || a == b || now.pact[a][b] == made) {
            return false;
        }
        now.pact[a][b] = made;
        now.pact[b][a] = made;
        return true;
    }

    int bones() {
        return now.bones.size();
    }

    int bone(int i, int what) {
        if (i < 0 || i >= Math.min(200, now.bones.size()) || what < 0 || what > 3) {
            throw new NoSuchElementException();
        }
        return now.bones.get(i)[what];
    }

    int feuds(int a, int b) {
        return ok(a) && ok(b) && a != b ? now.feuds[a][b] : NONE;
    }

    int gone(int f, boolean taken) {
        return ok(f) ? (taken ? now.taken : now.fed)[f] : NONE;
    }

    private static int[] losses(State s, int nights) {
        int[] before = new int[s.farms()];
        for (int f = 0; f < before.length; f++) {
            before[f] = s.fed[f] + s.taken[f];
        }
        for (int i = 0; i < nights; i++) {
            s.oneNight();
        }
        int[] loss = new int[before.length];
        for (int f = 0; f < before.length; f++) {
            loss[f] = s.fed[f] + s.taken[f] - before[f];
        }
        return loss;
    }

    private static boolean few(int nights) {
        return nights > 0 && nights < 29;
    }

    int loss(int f, int nights) {
        return ok(f) && few(nights) ? losses(now.copy(), nights)[f] : NONE;
    }

    private int[] levelsOf(int row) {
        int[] l = new int[now.farms()];
        for (int f = 0; f < l.length; f++) {
            l[f] = row / (int) Math.pow(4, f) % 4;
        }
        return l;
    }

    private static int rowOf(int[] levels) {
        int row = 0;
        for (int f = levels.length - 1; f >= 0; f--) {
            row = row * 4 + levels[f];
        }
        return row;
    }

    private int[] gameLosses(int[] levels, int nights, Map<Integer, int[]> had) {
        int row = rowOf(levels);
        if (!had.containsKey(row)) {
            State s = now.copy();
            s.levels = levels.clone();
            had.put(row, losses(s, nights));
        }
        return had.get(row);
    }

    private int rowsInGame() {
        return (int) Math.pow(4, now.farms());
    }

    private boolean game(int nights) {
        return few(nights) && now.farms() <= 4;
    }

    int level(int row, int f, int nights) {
        if (!game(nights) || !ok(f) || row < 0 || row >= rowsInGame()) {
            return NONE;
        }
        return gameLosses(levelsOf(row), nights, new HashMap<>())[f];
    }

    private List<Integer> allRests(int nights) {
        Map<Integer, int[]> had = new HashMap<>();
        List<Integer> all = new ArrayList<>();
        for (int row = 0; row < rowsInGame(); row++) {
            boolean rest = true;
            for (int f = 0; f < now.farms(); f++) {
                for (int l = 0; l < 4; l++) {
                    int[] other = levelsOf(row);
                    other[f] = l;
                    rest &= gameLosses(other, nights, had)[f] >= gameLosses(levelsOf(row), nights, had)[f];
                }
            }
            if (rest) {
                all.add(row);
            }
        }
        return all;
    }

    int rests(int nights) {
        return game(nights) ? allRests(nights).size() : NONE;
    }

    int rest(int nights, int i) {
        if (!game(nights)) {
            return NONE;
        }
        List<Integer> all = allRests(nights);
        return i >= 0 && i < all.size() ? all.get(i) : NONE;
    }

    int played(int row, int nights, int what) {
        if (!game(nights) || row < 0 || row >= rowsInGame() || what < 0 || what > 1) {
            return NONE;
        }
        Map<Integer, int[]> had = new HashMap<>();
        List<Integer> behind = new ArrayList<>(List.of(row));
        int[] at = levelsOf(row);
        int rounds = 0;
        while (true) {
            boolean moved = false;
            for (int f = 0; f < at.length; f++) {
                int has = gameLosses(at, nights, had)[f];
                int least = Integer.MAX_VALUE;
                int by = NONE;
                for (int l = 3; l >= 0; l--) {
                    int[] other = at.clone();
                    other[f] = l;
                    int loss = gameLosses(other, nights, had)[f];
                    if (loss <= least) {
                        least = loss;
                        by = l;
                    }
                }
                if (least < has) {
                    at[f] = by;
                    moved = true;
                }
            }
            rounds++;
            if (!moved) {
                return what == 0 ? rowOf(at) : rounds;
            }
            if (behind.contains(rowOf(at))) {
                return what == 0 ? NONE : rounds;
            }
            behind.add(rowOf(at));
        }
    }

    private static int[] numberedByFirst(int[] labels) {
        Map<Integer, Integer> seen = new HashMap<>();
        int[] g = new int[labels.length];
        for (int f = 0; f < labels.length; f++) {
            seen.putIfAbsent(labels[f], seen.size());
            g[f] = seen.get(labels[f]);
        }
        return g;
    }

    private int[] joinedLosses(int[] groups, int nights, Map<String, int[]> had) {
        String key = Arrays.toString(groups);
        if (!had.containsKey(key)) {
            State s = now.copy();
            for (int a = 0; a < groups.length; a++) {
                for (int b = 0; b < groups.length; b++) {
                    s.pact[a][b] = a != b && groups[a] == groups[b];
                }
            }
            had.put(key, losses(s, nights));
        }
        return had.get(key);
    }

    private void addGroups(List<int[]> all, int[] groups, int f, int used) {
        if (f == groups.length) {
            all.add(groups.clone());
            return;
        }
        for (int g = 0; g <= used; g++) {
            groups[f] = g;
            addGroups(all, groups, f + 1, Math.max(used, g + 1));
        }
    }

    private List<int[]> allFirm(int nights) {
        Map<String, int[]> had = new HashMap<>();
        List<int[]> all = new ArrayList<>();
        addGroups(all, new int[now.farms()], 0, 0);
        all.removeIf(row -> {
            for (int set = 1; set < 1 << row.length; set++) {
                int[] labels = row.clone();
                for (int f = 0; f < row.length; f++) {
                    if ((set & 1 << f) != 0) {
                        labels[f] = 99;
                    }
                }
                int[] then = joinedLosses(numberedByFirst(labels), nights, had);
                boolean all1 = true;
                for (int f = 0; f < row.length; f++) {
                    if (labels[f] == 99 && then[f] >= joinedLosses(row, nights, had)[f]) {
                        all1 = false;
                    }
                }
                if (all1) {
                    return true;
                }
            }
            return false;
        });
        return all;
    }

    int firm(int nights) {
        return few(nights) && now.farms() < 6 ? allFirm(nights).size() : NONE;
    }

    int group(int nights, int i, int f) {
        if (!few(nights) || now.farms() > 5 || !ok(f)) {
            return NONE;
        }
        List<int[]> all = allFirm(nights);
        return i >= 0 && i < all.size() ? all.get(i)[f] : NONE;
    }

    int pup(int f, int nights) {
        if (!ok(f) || !few(nights) || now.hunger[f] == 99) {
            throw new NoSuchElementException();
        }
        State hungrier = now.copy();
        hungrier.hunger[f]++;
        return losses(now.copy(), nights)[f] - losses(hungrier, nights)[f];
    }

    int bite(int wide) {
        if (wide == 0) {
            now.bites.clear();
            return 0;
        }
        if (wide < 0 || wide > 4 || now.bites.size() == 8) {
            return NONE;
        }
        now.bites.add(wide);
        return now.bites.size();
    }

    private static long gcd(long a, long b) {
        return b == 0 ? a : gcd(b, a % b);
    }

    private static int lowest(long above, long below, int what) {
        return (int) ((what == 0 ? above : below) / gcd(above, below));
    }

    private long odds(int f) {
        return now.bites.stream().mapToLong(b -> often(f, b)).reduce(1, (a, b) -> a * b);
    }

    int whose(int f, int what) {
        if (!ok(f) || what < 0 || what > 1 || now.hunger[f] == 0) {
            return NONE;
        }
        long sum = 0;
        for (int w = 0; w < now.farms(); w++) {
            sum += now.hunger[w] > 0 ? odds(w) : 0;
        }
        return sum == 0 ? NONE : lowest(odds(f), sum, what);
    }

    int chance(int what) {
        if (what != 0 && what != 1) {
            return NONE;
        }
        List<List<Integer>> ways = new ArrayList<>();
        for (int w = 0; w < now.farms(); w++) {
            List<Integer> to = now.neighbours(now.home(w));
            if (now.hunger[w] > 0 && !to.isEmpty()) {
                ways.add(to);
            }
        }
        if (ways.isEmpty()) {
            return 1;
        }
        long[] counts = new long[2];
        countWays(ways, 0, new ArrayList<>(), counts);
        return lowest(counts[0], counts[1], what);
    }

    private static void countWays(List<List<Integer>> ways, int w, List<Integer> at, long[] counts) {
        if (w == ways.size()) {
            counts[1]++;
            counts[0] += at.stream().distinct().count() == 1 ? 1 : 0;
            return;
        }
        for (int to : ways.get(w)) {
            at.add(to);
            countWays(ways, w + 1, at, counts);
            at.remove(at.size() - 1);
        }
    }

    boolean mark(int m, boolean back) {
        if (m < 0 || m > 3 || back && marks[m] == null) {
            return false;
        }
        if (back) {
            now = marks[m].copy();
        } else {
            marks[m] = now.copy();
        }
        return true;
    }

    int count(int what) {
        switch (what) {
            case 0: return now.farms();
            case 1: return now.night;
            case 2: return now.night / 28;
            case 3: return now.told.fences.size();
            case 4: {
                int n = 0;
                for (boolean[] row : now.pact) {
                    for (boolean p : row) {
                        n += p ? 1 : 0;
                    }
                }
                return n / 2;
            }
            case 5: return now.told.shares.size();
            case 6: return now.bites.size();
            case 7: return Arrays.stream(now.feuds).flatMapToInt(Arrays::stream).sum() / 2;
            case 8: return tape.length();
            default: return NONE;
        }
    }
}
