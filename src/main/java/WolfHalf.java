import java.util.Arrays;
import java.util.NoSuchElementException;

/** The wolf's half: mountains told in a language, their nights, and what is asked of them ahead. */
public final class WolfHalf {
    public static final int NONE = -1;

    private static final int MOST_FARMS = 6;
    private static final int MOST_NIGHTS = 1000;
    private static final int MOST_AHEAD = 28;
    private static final int MOST_SEED = 9999;
    private static final int MOST_FLOCK = 9999;
    private static final int MOST_DOGS = 9;
    private static final int MOST_HUNGER = 99;
    private static final int MOST_HEIGHT = 99;
    private static final int MOST_OFTEN = 9;
    private static final int WIDEST = 4;
    private static final int MARKS = 4;

    private static final int FLOCK = 0;
    private static final int DOGS = 1;
    private static final int HUNGER = 2;
    private static final int NIGHT = 3;
    private static final int FENCE = 4;
    private static final int LEAN = 5;
    private static final int FACTS = 6;

    private final Tape tape;
    private final Reader reader;
    private final Valley now;
    private final Book book;
    private final Valley ahead;
    private final Book scrap;
    private final Game game;
    private final Joined joined;
    private final Mark[] marks;
    private Mountain draft;

    public WolfHalf() {
        Mountain empty = new Mountain();
        tape = new Tape();
        draft = new Mountain();
        reader = new Reader(tape, draft);
        now = new Valley(empty);
        book = new Book();
        ahead = new Valley(empty);
        scrap = new Book();
        game = new Game(now, ahead, scrap);
        joined = new Joined(now, ahead, scrap);
        marks = new Mark[MARKS];
        for (int i = 0; i < MARKS; i++) {
            marks[i] = new Mark(empty);
        }
    }

    public int feed(long a, long b, long c) {
        tape.put(a);
        tape.put(b);
        tape.put(c);
        return tape.length;
    }

    public int mountain() {
        int fault = reader.read(draft);
        tape.clear();
        if (fault == 0) {
            settle();
        }
        return fault;
    }

    public int farm(int farm, int what) {
        if (!isFarm(farm)) {
            return NONE;
        }
        switch (what) {
            case 0:
                return now.flock[farm];
            case 1:
                return now.mountain.dogs[farm];
            case 2:
                return now.hunger[farm];
            case 3:
                return now.lean[farm];
            case 4:
                return now.homeOf(farm);
            case 5:
                return now.neighboursOf(farm);
            case 6:
                return now.pacts[farm];
            default:
                return NONE;
        }
    }

    public int tooth(int farm, int wide) {
        if (!isFarm(farm) || wide < 1 || wide > WIDEST) {
            return NONE;
        }
        return now.mountain.oftenBites(farm, wide);
    }

    public boolean seed(int seed) {
        if (seed < 0 || seed > MOST_SEED) {
            return false;
        }
        now.g = seed;
        forgetAhead();
        return true;
    }

    public int nights(int many) {
        if (many < 1 || many > MOST_NIGHTS) {
            return NONE;
        }
        now.run(book, many);
        forgetAhead();
        return now.night;
    }

    public boolean pact(int a, int b, boolean made) {
        if (!isPair(a, b) || now.havePact(a, b) == made) {
            return false;
        }
        now.turnPact(a, b);
        forgetAhead();
        return true;
    }

    public int bones() {
        return book.bones;
    }

    public int bone(int i, int what) throws NoSuchElementException {
        if (!book.keeps(i) || what < 0 || what >= Book.BONE) {
            throw new NoSuchElementException("no such bone is kept");
        }
        return book.kept[i * Book.BONE + what];
    }

    public int feuds(int a, int b) {
        return isPair(a, b) ? book.feuds[a * MOST_FARMS + b] : NONE;
    }

    public int gone(int farm, boolean taken) {
        if (!isFarm(farm)) {
            return NONE;
        }
        return taken ? now.taken[farm] : now.fed[farm];
    }

    public int loss(int farm, int nights) {
        return isFarm(farm) && isAhead(nights) ? lossIf(farm, nights, 0) : NONE;
    }

    public int level(int row, int farm, int nights) {
        if (!isFarm(farm) || !game.isReady(nights) || !game.isRow(row)) {
            return NONE;
        }
        game.lookAt(row);
        return game.lossIn(row, farm);
    }

    public int rests(int nights) {
        return game.isReady(nights) ? game.findAll() : NONE;
    }

    public int rest(int nights, int i) {
        if (!game.isReady(nights)) {
            return NONE;
        }
        game.findAll();
        return game.foundAt(i);
    }

    public int played(int row, int nights, int what) {
        if (what < 0 || what > 1 || !game.isReady(nights) || !game.isRow(row)) {
            return NONE;
        }
        int rounds = game.playFrom(row);
        return what == 0 ? game.restingRow : rounds;
    }

    public int firm(int nights) {
        return joined.isReady(nights) ? joined.findAll() : NONE;
    }

    public int group(int nights, int i, int farm) {
        if (!isFarm(farm) || !joined.isReady(nights)) {
            return NONE;
        }
        joined.findAll();
        int row = joined.foundAt(i);
        return row == NONE ? NONE : joined.groupIn(row, farm);
    }

    public int pup(int farm, int nights) throws NoSuchElementException {
        if (!isFarm(farm) || !isAhead(nights) || now.hunger[farm] >= MOST_HUNGER) {
            throw new NoSuchElementException("no such pup");
        }
        return lossIf(farm, nights, 0) - lossIf(farm, nights, 1);
    }

    public int bite(int wide) {
        if (wide == 0) {
            book.bitten = 0;
            return 0;
        }
        if (wide < 0 || wide > WIDEST || book.bitten >= Book.MOST_BITES) {
            return NONE;
        }
        book.bites[book.bitten] = wide;
        book.bitten++;
        return book.bitten;
    }

    public int whose(int farm, int what) {
        if (!isFarm(farm) || what < 0 || what > 1 || now.hunger[farm] == 0) {
            return NONE;
        }
        int all = 0;
        for (int wolf = 0; wolf < now.mountain.farms; wolf++) {
            if (now.hunger[wolf] > 0) {
                all += oddsOf(wolf);
            }
        }
        return all == 0 ? NONE : inLowestTerms(oddsOf(farm), all, what);
    }

    public int chance(int what) {
        if (what < 0 || what > 1) {
            return NONE;
        }
        int below = 1;
        int common = (1 << now.mountain.farms) - 1;
        boolean any = false;
        for (int wolf = 0; wolf < now.mountain.farms; wolf++) {
            int bits = now.neighboursOf(now.homeOf(wolf));
            if (now.hunger[wolf] > 0 && bits != 0) {
                any = true;
                common &= bits;
                below *= Integer.bitCount(bits);
            }
        }
        return inLowestTerms(any ? Integer.bitCount(common) : 1, below, what);
    }

    public boolean mark(int mark, boolean back) {
        if (mark < 0 || mark >= MARKS || back && !marks[mark].laid) {
            return false;
        }
        if (back) {
            now.copyFrom(marks[mark].valley);
            book.copyFrom(marks[mark].book);
            forgetAhead();
        } else {
            marks[mark].valley.copyFrom(now);
            marks[mark].book.copyFrom(book);
            marks[mark].laid = true;
        }
        return true;
    }

    public int count(int what) {
        switch (what) {
            case 0:
                return now.mountain.farms;
            case 1:
                return now.night;
            case 2:
                return now.night / Valley.MOON;
            case 3:
                return now.mountain.fences;
            case 4:
                return now.pactsInAll();
            case 5:
                return now.mountain.shares;
            case 6:
                return book.bitten;
            case 7:
                return book.feudsInAll;
            case 8:
                return tape.length;
            default:
                return NONE;
        }
    }

    private boolean isFarm(int farm) {
        return farm >= 0 && farm < now.mountain.farms;
    }

    private boolean isPair(int a, int b) {
        return isFarm(a) && isFarm(b) && a != b;
    }

    private static boolean isAhead(int nights) {
        return nights >= 1 && nights <= MOST_AHEAD;
    }

    /** The draft becomes the mountain; the old one's rows serve for the next draft. */
    private void settle() {
        Mountain old = now.mountain;
        now.begin(draft);
        draft = old;
        book.clear();
        for (int i = 0; i < MARKS; i++) {
            marks[i].laid = false;
        }
        forgetAhead();
    }

    private void forgetAhead() {
        game.forget();
        joined.forget();
    }

    private int lossIf(int farm, int nights, int hungrier) {
        ahead.copyFrom(now);
        ahead.hunger[farm] += hungrier;
        ahead.run(scrap, nights);
        return ahead.goneFrom(farm) - now.goneFrom(farm);
    }

    private int oddsOf(int wolf) {
        int odds = 1;
        for (int i = 0; i < book.bitten; i++) {
            odds *= now.mountain.oftenBites(wolf, book.bites[i]);
        }
        return odds;
    }

    private static int inLowestTerms(int above, int below, int what) {
        int divisor = greatestDivisor(above, below);
        int part = what == 0 ? above : below;
        return divisor == 0 ? part : part / divisor;
    }

    /** Euclid's way; no two ints need as many as 64 steps of it. */
    private static int greatestDivisor(int a, int b) {
        int great = a;
        int small = b;
        for (int step = 0; step < 64 && small != 0; step++) {
            int rest = great % small;
            great = small;
            small = rest;
        }
        return great;
    }

    /** The signs that were fed, and the token that is looked at: a word, a number, a sign, the end, or none of these. */
    private static final class Tape {
        private static final int MOST_SIGNS = 1000;
        private static final int LONGEST_WORD = 8;
        private static final int LONGEST_NUMBER = 4;

        private final char[] signs = new char[MOST_SIGNS];
        private int length;
        private int at;
        private int place;
        private long word;
        private int number;
        private char sign;
        private boolean end;

        void put(long eight) {
            for (int shift = 56; shift >= 0; shift -= 8) {
                int code = (int) (eight >>> shift) & 255;
                boolean counts = code == 10 || code >= 32 && code <= 126;
                if (counts && length < MOST_SIGNS) {
                    signs[length] = (char) code;
                    length++;
                }
            }
        }

        void clear() {
            length = 0;
        }

        void start() {
            at = 0;
            next();
        }

        /** A word's letters are the bytes of a long, so that words are compared as numbers. */
        void next() {
            while (at < length && (signs[at] == 10 || signs[at] == 32)) {
                at++;
            }
            place = at;
            end = at >= length;
            word = 0;
            number = NONE;
            sign = 0;
            while (at < length && signs[at] >= 'a' && signs[at] <= 'z') {
                word = word << 8 | signs[at];
                at++;
            }
            if (at > place) {
                word = at - place <= LONGEST_WORD ? word : 0;
                return;
            }
            int value = 0;
            while (at < length && signs[at] >= '0' && signs[at] <= '9') {
                value = value * 10 + (signs[at] - '0');
                at++;
            }
            if (at > place) {
                number = at - place <= LONGEST_NUMBER ? value : NONE;
                return;
            }
            if (at < length) {
                char c = signs[at];
                boolean counts = c == '(' || c == ')' || c == '<' || c == '=' || c == '+' || c == '-' || c == '*' || c == ';';
                sign = counts ? c : 0;
                at++;
            }
        }
    }

    /** An E, as steps in the order of their reckoning: a step takes its parts from steps before it. */
    private static final class Law {
        private static final int MOST_STEPS = Tape.MOST_SIGNS;
        private static final int NUMBER = 0;
        private static final int FACT = 1;
        private static final int NOT = 2;
        private static final int AND = 3;
        private static final int OR = 4;
        private static final int LESS = 5;
        private static final int EQUAL = 6;
        private static final int PLUS = 7;
        private static final int MINUS = 8;
        private static final int TIMES = 9;

        private final int[] kinds = new int[MOST_STEPS];
        private final int[] lefts = new int[MOST_STEPS];
        private final int[] rights = new int[MOST_STEPS];
        private final int[] values = new int[MOST_STEPS];
        private int steps;

        void clear() {
            steps = 0;
        }

        int addNumber(int number) {
            return add(NUMBER, number, 0);
        }

        int addFact(int fact) {
            return fact >= 0 && fact < FACTS ? add(FACT, fact, 0) : NONE;
        }

        int join(int kind, int left, int right) {
            boolean stand = left >= 0 && left < steps && right >= 0 && right < steps;
            return stand ? add(kind, left, right) : NONE;
        }

        private int add(int kind, int left, int right) {
            if (steps >= MOST_STEPS) {
                return NONE;
            }
            kinds[steps] = kind;
            lefts[steps] = left;
            rights[steps] = right;
            steps++;
            return steps - 1;
        }

        int worth(int[] facts) {
            int worth = 0;
            for (int i = 0; i < steps; i++) {
                int left = lefts[i];
                int right = rights[i];
                switch (kinds[i]) {
                    case NUMBER:
                        worth = left;
                        break;
                    case FACT:
                        worth = left < facts.length ? facts[left] : 0;
                        break;
                    case NOT:
                        worth = values[left] == 0 ? 1 : 0;
                        break;
                    case AND:
                        worth = values[left] != 0 && values[right] != 0 ? 1 : 0;
                        break;
                    case OR:
                        worth = values[left] != 0 || values[right] != 0 ? 1 : 0;
                        break;
                    case LESS:
                        worth = values[left] < values[right] ? 1 : 0;
                        break;
                    case EQUAL:
                        worth = values[left] == values[right] ? 1 : 0;
                        break;
                    case PLUS:
                        worth = values[left] + values[right];
                        break;
                    case MINUS:
                        worth = values[left] - values[right];
                        break;
                    default:
                        worth = values[left] * values[right];
                        break;
                }
                values[i] = worth;
            }
            return worth;
        }
    }

    /** What was told, and never changes by nights or by hand. */
    private static final class Mountain {
        private int farms;
        private int fences;
        private int shares;
        private final long[] names = new long[MOST_FARMS];
        private final int[] flock = new int[MOST_FARMS];
        private final int[] dogs = new int[MOST_FARMS];
        private final int[] hunger = new int[MOST_FARMS];
        private final int[] fenced = new int[MOST_FARMS];
        private final int[] heights = new int[MOST_FARMS * MOST_FARMS];
        private final int[] pacts = new int[MOST_FARMS];
        private final int[] partner = new int[MOST_FARMS];
        private final int[] often = new int[MOST_FARMS * WIDEST];
        private int toothed;
        private final Law feeding = new Law();
        private final Law going = new Law();

        void clear() {
            farms = 0;
            fences = 0;
            shares = 0;
            toothed = 0;
            feeding.clear();
            going.clear();
            Arrays.fill(fenced, 0);
            Arrays.fill(pacts, 0);
            Arrays.fill(partner, NONE);
            Arrays.fill(often, 1);
        }

        int named(long name) {
            for (int farm = 0; farm < farms; farm++) {
                if (names[farm] == name) {
                    return farm;
                }
            }
            return NONE;
        }

        void addFarm(long name, int itsFlock, int itsDogs, int itsHunger) {
            if (farms < MOST_FARMS) {
                names[farms] = name;
                flock[farms] = itsFlock;
                dogs[farms] = itsDogs;
                hunger[farms] = itsHunger;
                farms++;
            }
        }

        boolean haveFence(int a, int b) {
            return (fenced[a] >> b & 1) == 1;
        }

        void addFence(int a, int b, int height) {
            fenced[a] |= 1 << b;
            fenced[b] |= 1 << a;
            heights[a * MOST_FARMS + b] = height;
            heights[b * MOST_FARMS + a] = height;
            fences++;
        }

        boolean havePact(int a, int b) {
            return (pacts[a] >> b & 1) == 1;
        }

        void addPact(int a, int b) {
            pacts[a] |= 1 << b;
            pacts[b] |= 1 << a;
        }

        void addShare(int first, int other) {
            partner[first] = other;
            shares++;
        }

        boolean hasTooth(int farm) {
            return (toothed >> farm & 1) == 1;
        }

        void addTooth(int farm) {
            toothed |= 1 << farm;
        }

        void setOften(int farm, int wide, int times) {
            often[farm * WIDEST + wide - 1] = times;
        }

        int oftenBites(int farm, int wide) {
            return often[farm * WIDEST + wide - 1];
        }
    }

    /** Reads the tape as a mountain; the first fault stays, and nothing is read behind it. */
    private static final class Reader {
        private static final int CANT_STAND = 1;
        private static final int NOT_TOLD = 2;
        private static final int TOLD_ALREADY = 3;
        private static final int NOT_AS_TOLD = 4;
        private static final int TOO_MANY = 5;
        private static final int DEEPEST = 5;

        /** The words' letters as the bytes of a long, as the tape has them. */
        private static final long WORD_FARM = 0x6661726DL;
        private static final long WORD_FLOCK = 0x666C6F636BL;
        private static final long WORD_DOGS = 0x646F6773L;
        private static final long WORD_WOLF = 0x776F6C66L;
        private static final long WORD_FENCE = 0x66656E6365L;
        private static final long WORD_PACT = 0x70616374L;
        private static final long WORD_SHARE = 0x7368617265L;
        private static final long WORD_TOOTH = 0x746F6F7468L;
        private static final long WORD_FEED = 0x66656564L;
        private static final long WORD_GO = 0x676FL;
        private static final long WORD_NOT = 0x6E6F74L;
        private static final long WORD_AND = 0x616E64L;
        private static final long WORD_OR = 0x6F72L;
        private static final long WORD_HUNGER = 0x68756E676572L;
        private static final long WORD_NIGHT = 0x6E69676874L;
        private static final long WORD_LEAN = 0x6C65616EL;

        private static final long[] NO_NAMES = {
            WORD_FARM, WORD_FLOCK, WORD_DOGS, WORD_WOLF, WORD_FENCE, WORD_PACT, WORD_SHARE,
            WORD_TOOTH, WORD_FEED, WORD_GO, WORD_NOT, WORD_AND, WORD_OR
        };

        private final Tape tape;
        private Mountain told;
        private Law law;
        private int fault;

        Reader(Tape tape, Mountain draft) {
            this.tape = tape;
            told = draft;
            law = draft.feeding;
        }

        int read(Mountain draft) {
            draft.clear();
            told = draft;
            fault = 0;
            tape.start();
            for (int i = 0; i < Tape.MOST_SIGNS && fault == 0 && !tape.end; i++) {
                readLine();
            }
            if (draft.feeding.steps == 0) {
                draft.feeding.addNumber(0);
            }
            if (draft.going.steps == 0) {
                draft.going.addFact(FLOCK);
            }
            return fault;
        }

        private void readLine() {
            long word = tape.word;
            if (word == WORD_FARM) {
                readFarm();
            } else if (word == WORD_FENCE) {
                readFence();
            } else if (word == WORD_PACT) {
                readPact();
            } else if (word == WORD_SHARE) {
                readShare();
            } else if (word == WORD_TOOTH) {
                readTooth();
            } else if (word == WORD_FEED) {
                readLaw(told.feeding);
            } else if (word == WORD_GO) {
                readLaw(told.going);
            } else {
                refuse(CANT_STAND);
            }
        }

        private void readFarm() {
            if (told.farms >= MOST_FARMS) {
                refuse(TOO_MANY);
            }
            tape.next();
            long name = tape.word;
            if (!isName(name)) {
                refuse(CANT_STAND);
            } else if (told.named(name) != NONE) {
                refuse(TOLD_ALREADY);
            }
            tape.next();
            readWord(WORD_FLOCK);
            int flock = readNumber(MOST_FLOCK);
            readWord(WORD_DOGS);
            int dogs = readNumber(MOST_DOGS);
            readWord(WORD_WOLF);
            int hunger = readNumber(MOST_HUNGER);
            readSign(';');
            if (fault == 0) {
                told.addFarm(name, flock, dogs, hunger);
            }
        }

        private void readFence() {
            tape.next();
            int first = oldFarm();
            tape.next();
            int second = oldFarm();
            if (first == second || told.haveFence(first, second)) {
                refuse(TOLD_ALREADY);
            }
            tape.next();
            int height = readNumber(MOST_HEIGHT);
            readSign(';');
            if (fault == 0) {
                told.addFence(first, second, height);
            }
        }

        private void readPact() {
            tape.next();
            int first = oldFarm();
            tape.next();
            int second = oldFarm();
            if (first == second || told.havePact(first, second)) {
                refuse(TOLD_ALREADY);
            }
            tape.next();
            readSign(';');
            if (fault == 0) {
                told.addPact(first, second);
            }
        }

        private void readShare() {
            tape.next();
            int first = oldFarm();
            if (told.partner[first] != NONE) {
                refuse(TOLD_ALREADY);
            }
            tape.next();
            int second = oldFarm();
            if (first == second) {
                refuse(TOLD_ALREADY);
            }
            tape.next();
            readSign(';');
            if (fault == 0) {
                told.addShare(first, second);
            }
        }

        private void readTooth() {
            tape.next();
            int farm = oldFarm();
            if (told.hasTooth(farm)) {
                refuse(TOLD_ALREADY);
            }
            tape.next();
            int sum = 0;
            for (int wide = 1; wide <= WIDEST && fault == 0; wide++) {
                boolean mayBeNone = wide < WIDEST || sum > 0;
                if (tape.number == 0 && !mayBeNone) {
                    refuse(NOT_AS_TOLD);
                }
                int times = readNumber(MOST_OFTEN);
                sum += times;
                told.setOften(farm, wide, times);
            }
            readSign(';');
            if (fault == 0) {
                told.addTooth(farm);
            }
        }

        private void readLaw(Law its) {
            if (its.steps > 0) {
                refuse(TOLD_ALREADY);
            }
            tape.next();
            law = its;
            readAll(0);
            readSign(';');
        }

        private int readAll(int depth) {
            int left = readTest(depth);
            for (int i = 0; i < Tape.MOST_SIGNS && fault == 0; i++) {
                long word = tape.word;
                if (word != WORD_AND && word != WORD_OR) {
                    break;
                }
                tape.next();
                int right = readTest(depth);
                left = law.join(word == WORD_AND ? Law.AND : Law.OR, left, right);
            }
            return left;
        }

        private int readTest(int depth) {
            int left = readSum(depth);
            char sign = tape.sign;
            if (fault != 0 || sign != '<' && sign != '=') {
                return left;
            }
            tape.next();
            int right = readSum(depth);
            return law.join(sign == '<' ? Law.LESS : Law.EQUAL, left, right);
        }

        private int readSum(int depth) {
            int left = readProduct(depth);
            for (int i = 0; i < Tape.MOST_SIGNS && fault == 0; i++) {
                char sign = tape.sign;
                if (sign != '+' && sign != '-') {
                    break;
                }
                tape.next();
                int right = readProduct(depth);
                left = law.join(sign == '+' ? Law.PLUS : Law.MINUS, left, right);
            }
            return left;
        }

        private int readProduct(int depth) {
            int left = readPart(depth);
            for (int i = 0; i < Tape.MOST_SIGNS && fault == 0 && tape.sign == '*'; i++) {
                tape.next();
                int right = readPart(depth);
                left = law.join(Law.TIMES, left, right);
            }
            return left;
        }

        private int readPart(int depth) {
            int fact = factOf(tape.word);
            boolean opens = tape.word == WORD_NOT || tape.sign == '(';
            if (fact == NONE && tape.number == NONE && !opens) {
                refuse(CANT_STAND);
            } else if (depth >= DEEPEST) {
                refuse(TOO_MANY);
            }
            if (fault != 0) {
                return NONE;
            }
            if (opens) {
                return readInner(depth + 1);
            }
            int part = fact == NONE ? law.addNumber(tape.number) : law.addFact(fact);
            tape.next();
            return part;
        }

        private int readInner(int depth) {
            boolean not = tape.word == WORD_NOT;
            tape.next();
            if (not) {
                int part = readPart(depth);
                return law.join(Law.NOT, part, part);
            }
            int all = readAll(depth);
            readSign(')');
            return all;
        }

        private int factOf(long word) {
            boolean feeding = law == told.feeding;
            if (word == WORD_FLOCK) {
                return FLOCK;
            }
            if (word == WORD_DOGS) {
                return DOGS;
            }
            if (word == WORD_HUNGER) {
                return HUNGER;
            }
            if (word == WORD_NIGHT && feeding) {
                return NIGHT;
            }
            if (word == WORD_FENCE && !feeding) {
                return FENCE;
            }
            return word == WORD_LEAN && !feeding ? LEAN : NONE;
        }

        private static boolean isName(long word) {
            for (int i = 0; i < NO_NAMES.length; i++) {
                if (word == NO_NAMES[i]) {
                    return false;
                }
            }
            return word != 0;
        }

        /** The farm that the token names, which stays the token: more may be wrong with it. Farm 0 stands in behind a fault. */
        private int oldFarm() {
            int farm = told.named(tape.word);
            if (!isName(tape.word)) {
                refuse(CANT_STAND);
            } else if (farm == NONE) {
                refuse(NOT_TOLD);
            }
            return farm == NONE ? 0 : farm;
        }

        private void readWord(long word) {
            if (tape.word != word) {
                refuse(CANT_STAND);
            }
            tape.next();
        }

        private int readNumber(int most) {
            int number = tape.number;
            if (number == NONE) {
                refuse(CANT_STAND);
            } else if (number > most) {
                refuse(NOT_AS_TOLD);
            }
            tape.next();
            return number;
        }

        private void readSign(char sign) {
            if (tape.sign != sign) {
                refuse(CANT_STAND);
            }
            tape.next();
        }

        private void refuse(int kind) {
            if (fault == 0) {
                fault = kind + 16 * tape.place;
            }
        }
    }

    /** What nights change and hang on; a copy of it is gone on with to look ahead. */
    private static final class Valley {
        private static final int MOON = 28;
        private static final int TOO_LEAN = 3;

        private Mountain mountain;
        private int night;
        private long g;
        private final int[] flock = new int[MOST_FARMS];
        private final int[] hunger = new int[MOST_FARMS];
        private final int[] lean = new int[MOST_FARMS];
        private final int[] fed = new int[MOST_FARMS];
        private final int[] taken = new int[MOST_FARMS];
        private final int[] pacts = new int[MOST_FARMS];
        private final int[] levels = new int[MOST_FARMS];
        private final int[] facts = new int[FACTS];

        Valley(Mountain mountain) {
            this.mountain = mountain;
        }

        void begin(Mountain told) {
            mountain = told;
            night = 0;
            g = 0;
            System.arraycopy(told.flock, 0, flock, 0, MOST_FARMS);
            System.arraycopy(told.hunger, 0, hunger, 0, MOST_FARMS);
            System.arraycopy(told.pacts, 0, pacts, 0, MOST_FARMS);
            Arrays.fill(lean, 0);
            Arrays.fill(fed, 0);
            Arrays.fill(taken, 0);
            Arrays.fill(levels, NONE);
        }

        void copyFrom(Valley other) {
            mountain = other.mountain;
            night = other.night;
            g = other.g;
            System.arraycopy(other.flock, 0, flock, 0, MOST_FARMS);
            System.arraycopy(other.hunger, 0, hunger, 0, MOST_FARMS);
            System.arraycopy(other.lean, 0, lean, 0, MOST_FARMS);
            System.arraycopy(other.fed, 0, fed, 0, MOST_FARMS);
            System.arraycopy(other.taken, 0, taken, 0, MOST_FARMS);
            System.arraycopy(other.pacts, 0, pacts, 0, MOST_FARMS);
            System.arraycopy(other.levels, 0, levels, 0, MOST_FARMS);
        }

        int homeOf(int wolf) {
            int partner = mountain.partner[wolf];
            boolean away = night / MOON % 2 == 1;
            return away && partner != NONE ? partner : wolf;
        }

        int neighboursOf(int farm) {
            return mountain.fenced[farm] & ~pacts[farm];
        }

        boolean havePact(int a, int b) {
            return (pacts[a] >> b & 1) == 1;
        }

        void turnPact(int a, int b) {
            pacts[a] ^= 1 << b;
            pacts[b] ^= 1 << a;
        }

        int pactsInAll() {
            int ends = 0;
            for (int farm = 0; farm < mountain.farms; farm++) {
                ends += Integer.bitCount(pacts[farm]);
            }
            return ends / 2;
        }

        int goneFrom(int farm) {
            return fed[farm] + taken[farm];
        }

        void run(Book book, int many) {
            for (int i = 0; i < many; i++) {
                for (int wolf = 0; wolf < mountain.farms; wolf++) {
                    if (hunger[wolf] > 0) {
                        runWolf(book, wolf);
                    }
                }
                endNight();
            }
        }

        private void runWolf(Book book, int wolf) {
            int home = homeOf(wolf);
            int eaten = fedAt(home, hunger[wolf]);
            flock[home] -= eaten;
            fed[home] += eaten;
            int left = hunger[wolf] - eaten;
            int there = left > 0 ? oneOf(bestAround(home, left, lean[wolf])) : NONE;
            if (there != NONE) {
                int half = takenAt(there, left);
                flock[there] -= half;
                taken[there] += half;
                eaten += half;
                if (half > 0) {
                    book.addBone(night, there, wolf, half);
                }
            }
            lean[wolf] = 2 * eaten < hunger[wolf] ? lean[wolf] + 1 : 0;
            if (there != NONE && lean[wolf] >= TOO_LEAN) {
                book.addFeud(home, there);
                lean[wolf] = 0;
            }
        }

        private int fedAt(int home, int hungry) {
            int due = levels[home];
            if (due == NONE) {
                facts[FLOCK] = flock[home];
                facts[DOGS] = mountain.dogs[home];
                facts[HUNGER] = hungry;
                facts[NIGHT] = night;
                due = mountain.feeding.worth(facts);
            }
            return Math.min(Math.max(due, 0), Math.min(flock[home], hungry));
        }

        private int takenAt(int there, int left) {
            int half = (left + 1) / 2 - mountain.dogs[there];
            return Math.min(Math.max(half, 0), flock[there]);
        }

        /** The neighbours that the law of going likes best, as bits. */
        private int bestAround(int home, int left, int nightsLean) {
            int greatest = 0;
            int best = 0;
            int neighbours = neighboursOf(home);
            facts[HUNGER] = left;
            facts[LEAN] = nightsLean;
            for (int farm = 0; farm < mountain.farms; farm++) {
                if ((neighbours >> farm & 1) == 1) {
                    facts[FLOCK] = flock[farm];
                    facts[DOGS] = mountain.dogs[farm];
                    facts[FENCE] = mountain.heights[home * MOST_FARMS + farm];
                    int worth = mountain.going.worth(facts);
                    if (worth > greatest) {
                        greatest = worth;
                        best = 1 << farm;
                    } else if (worth == greatest && best != 0) {
                        best |= 1 << farm;
                    }
                }
            }
            return best;
        }

        /** One of the farms whose bits are set; no draw is made where there is no choice. */
        private int oneOf(int bits) {
            int many = Integer.bitCount(bits);
            int which = many > 1 ? draw(many) : 0;
            for (int farm = 0; farm < MOST_FARMS; farm++) {
                if ((bits >> farm & 1) == 1) {
                    if (which == 0) {
                        return farm;
                    }
                    which--;
                }
            }
            return NONE;
        }

        private int draw(int below) {
            g = (g * 1103515245L + 12345L) % 2147483648L;
            return below > 0 ? (int) (g / 65536L % below) : 0;
        }

        private void endNight() {
            night++;
            if (night % MOON == 0) {
                for (int farm = 0; farm < mountain.farms; farm++) {
                    flock[farm] = Math.min(flock[farm] + flock[farm] / 10, MOST_FLOCK);
                }
            }
        }
    }

    /** What is written down: bones, feuds, bites. */
    private static final class Book {
        private static final int BONE = 4;
        private static final int MOST_KEPT = 200;
        private static final int MOST_BITES = 8;

        private final int[] kept = new int[MOST_KEPT * BONE];
        private final int[] feuds = new int[MOST_FARMS * MOST_FARMS];
        private final int[] bites = new int[MOST_BITES];
        private int bones;
        private int feudsInAll;
        private int bitten;

        void clear() {
            bones = 0;
            feudsInAll = 0;
            bitten = 0;
            Arrays.fill(feuds, 0);
        }

        void copyFrom(Book other) {
            bones = other.bones;
            feudsInAll = other.feudsInAll;
            bitten = other.bitten;
            System.arraycopy(other.kept, 0, kept, 0, MOST_KEPT * BONE);
            System.arraycopy(other.feuds, 0, feuds, 0, MOST_FARMS * MOST_FARMS);
            System.arraycopy(other.bites, 0, bites, 0, MOST_BITES);
        }

        boolean keeps(int i) {
            return i >= 0 && i < bones && i < MOST_KEPT;
        }

        void addBone(int night, int flock, int wolf, int many) {
            if (bones < MOST_KEPT) {
                int at = bones * BONE;
                kept[at] = night;
                kept[at + 1] = flock;
                kept[at + 2] = wolf;
                kept[at + 3] = many;
            }
            bones++;
        }

        void addFeud(int a, int b) {
            feuds[a * MOST_FARMS + b]++;
            feuds[b * MOST_FARMS + a]++;
            feudsInAll++;
        }
    }

    /** All but the tape, as it was when the mark was laid. */
    private static final class Mark {
        private final Valley valley;
        private final Book book;
        private boolean laid;

        Mark(Mountain mountain) {
            valley = new Valley(mountain);
            book = new Book();
        }
    }

    /** What each farm would lose by each row of choices; known rows are kept until something changes. */
    private abstract static class Outlook {
        private final Valley now;
        private final Valley ahead;
        private final Book scrap;
        private final int mostFarms;
        private final int[] losses;
        private final int[] known;
        private final int[] found;
        private int foundMany;
        private int nights;
        private int farms;

        Outlook(Valley now, Valley ahead, Book scrap, int mostFarms, int rows) {
            this.now = now;
            this.ahead = ahead;
            this.scrap = scrap;
            this.mostFarms = mostFarms;
            losses = new int[rows * MOST_FARMS];
            known = new int[rows];
            found = new int[rows];
        }

        abstract int rows();

        abstract boolean isRow(int row);

        abstract void arrange(Valley valley, int row);

        abstract boolean stays(int row);

        int farms() {
            return farms;
        }

        void forget() {
            nights = 0;
        }

        /** Whether so many nights of this mountain can be asked for; what is known of other nights is forgotten then. */
        boolean isReady(int many) {
            if (!isAhead(many) || now.mountain.farms > mostFarms) {
                return false;
            }
            if (nights != many) {
                nights = many;
                farms = now.mountain.farms;
                foundMany = NONE;
                Arrays.fill(known, 0);
            }
            return true;
        }

        void lookAt(int row) {
            if (row < 0 || row >= known.length || known[row] != 0) {
                return;
            }
            ahead.copyFrom(now);
            arrange(ahead, row);
            ahead.run(scrap, nights);
            for (int farm = 0; farm < farms; farm++) {
                losses[row * MOST_FARMS + farm] = ahead.goneFrom(farm) - now.goneFrom(farm);
            }
            known[row] = 1;
        }

        int lossIn(int row, int farm) {
            int at = row * MOST_FARMS + farm;
            return at >= 0 && at < losses.length ? losses[at] : 0;
        }

        int findAll() {
            if (foundMany != NONE) {
                return foundMany;
            }
            int rows = Math.min(rows(), known.length);
            for (int row = 0; row < rows; row++) {
                if (isRow(row)) {
                    lookAt(row);
                }
            }
            foundMany = 0;
            for (int row = 0; row < rows; row++) {
                if (isRow(row) && stays(row)) {
                    found[foundMany] = row;
                    foundMany++;
                }
            }
            return foundMany;
        }

        int foundAt(int i) {
            return i >= 0 && i < foundMany ? found[i] : NONE;
        }
    }

    /** Rows of levels, two bits a farm. */
    private static final class Game extends Outlook {
        private static final int FARMS = 4;
        private static final int ROWS = 256;
        private static final int LEVELS = 4;

        private final int[] been = new int[ROWS];
        private int restingRow;

        Game(Valley now, Valley ahead, Book scrap) {
            super(now, ahead, scrap, FARMS, ROWS);
        }

        int rows() {
            return 1 << 2 * farms();
        }

        boolean isRow(int row) {
            return row >= 0 && row < rows();
        }

        void arrange(Valley valley, int row) {
            for (int farm = 0; farm < farms(); farm++) {
                valley.levels[farm] = row >> 2 * farm & LEVELS - 1;
            }
        }

        boolean stays(int row) {
            for (int farm = 0; farm < farms(); farm++) {
                if (answer(row, farm) != row) {
                    return false;
                }
            }
            return true;
        }

        /** How many rounds are played; restingRow is the row at rest then, or NONE for a ring. */
        int playFrom(int first) {
            Arrays.fill(been, 0);
            int row = first;
            restingRow = NONE;
            for (int rounds = 1; rounds <= ROWS + 1; rounds++) {
                been[row] = 1;
                int before = row;
                for (int farm = 0; farm < farms(); farm++) {
                    for (int level = 0; level < LEVELS; level++) {
                        lookAt(withLevel(row, farm, level));
                    }
                    row = answer(row, farm);
                }
                if (row == before) {
                    restingRow = row;
                    return rounds;
                }
                if (been[row] != 0) {
                    return rounds;
                }
            }
            return NONE;
        }

        private int answer(int row, int farm) {
            int best = row;
            int least = lossIn(row, farm);
            for (int level = 0; level < LEVELS; level++) {
                int other = withLevel(row, farm, level);
                int loss = lossIn(other, farm);
                if (loss < least) {
                    least = loss;
                    best = other;
                }
            }
            return best;
        }

        private static int withLevel(int row, int farm, int level) {
            return row & ~(LEVELS - 1 << 2 * farm) | level << 2 * farm;
        }
    }

    /** Rows of groups: farm k's group is told to the base k + 1, farm 0 ahead, so that the rows' numbers are in their order. */
    private static final class Joined extends Outlook {
        private static final int FARMS = 5;
        private static final int ROWS = 120;

        private final int[] groups = new int[FARMS];
        private final int[] renumbered = new int[FARMS + 1];

        Joined(Valley now, Valley ahead, Book scrap) {
            super(now, ahead, scrap, FARMS, ROWS);
        }

        int rows() {
            int rows = 1;
            for (int farm = 1; farm < farms(); farm++) {
                rows *= farm + 1;
            }
            return rows;
        }

        boolean isRow(int row) {
            split(row);
            int next = 0;
            for (int farm = 0; farm < farms(); farm++) {
                if (groups[farm] > next) {
                    return false;
                }
                if (groups[farm] == next) {
                    next++;
                }
            }
            return true;
        }

        void arrange(Valley valley, int row) {
            split(row);
            for (int farm = 0; farm < farms(); farm++) {
                int bits = 0;
                for (int other = 0; other < farms(); other++) {
                    if (other != farm && groups[other] == groups[farm]) {
                        bits |= 1 << other;
                    }
                }
                valley.pacts[farm] = bits;
            }
        }

        boolean stays(int row) {
            split(row);
            for (int set = 1; set < 1 << farms(); set++) {
                if (wouldLeave(row, set)) {
                    return false;
                }
            }
            return true;
        }

        int groupIn(int row, int farm) {
            split(row);
            return farm >= 0 && farm < FARMS ? groups[farm] : NONE;
        }

        private boolean wouldLeave(int row, int set) {
            int after = rowWithout(set);
            for (int farm = 0; farm < farms(); farm++) {
                boolean inSet = (set >> farm & 1) == 1;
                if (inSet && lossIn(after, farm) >= lossIn(row, farm)) {
                    return false;
                }
            }
            return true;
        }

        /** The row in which the set is a group of its own, and the others are as they are. */
        private int rowWithout(int set) {
            Arrays.fill(renumbered, NONE);
            int row = 0;
            int next = 0;
            for (int farm = 0; farm < farms(); farm++) {
                int group = (set >> farm & 1) == 1 ? FARMS : groups[farm];
                if (renumbered[group] == NONE) {
                    renumbered[group] = next;
                    next++;
                }
                row = row * (farm + 1) + renumbered[group];
            }
            return row;
        }

        private void split(int row) {
            int rest = row;
            for (int farm = farms() - 1; farm >= 0; farm--) {
                groups[farm] = rest % (farm + 1);
                rest /= farm + 1;
            }
        }
    }
}
