/**
 * Each brings a dish: houses told by a text, evenings, what is eaten, odds, years, illness, thrift,
 * kinds and images. Houses that were not told have no weights and eat nothing, so that loops may
 * go over all six.
 */
public final class EachBrings {
    public static final int BAD = -1, STATE = -2, FULL = -3, NONE = -9;
    public static final int NO = -1000000;

    private static final int SORTS = 4;
    private static final int SORT_SETS = 1 << SORTS;
    private static final int MOST_HOUSES = 6;
    private static final int HOUSE_SETS = 1 << MOST_HOUSES;
    private static final int MOST_BYTES = 300;
    private static final int MOST_YEARS = 200;
    private static final int HEAVIEST = 9;
    private static final int FREE = 0, LETTERS = 1, BOARD = 2;
    private static final int UNTOLD = 0, WELL = 1, ILL = 2;
    private static final int NOTHING = 9;

    private final Text text;
    private final Village village;
    private final Now now;
    private final Now firstImage;
    private final Now secondImage;
    private final Chances chances;
    private final Years years;
    private final int[] favourites;
    private int keptImages;
    private long asked;

    public EachBrings() {
        text = new Text();
        village = new Village();
        now = new Now();
        firstImage = new Now();
        secondImage = new Now();
        chances = new Chances();
        years = new Years();
        favourites = new int[MOST_HOUSES];
        keptImages = 0;
        asked = 0;
        now.lot = 1;
    }

    // ---- the village

    public int type(long v, int n) {
        if (n < 1 || n > 8) {
            return BAD;
        }
        if (text.length + n > MOST_BYTES) {
            return FULL;
        }
        text.add(v, n);
        return text.length;
    }

    public int clear() {
        int had = text.length;
        text.length = 0;
        return had;
    }

    public int village() {
        int items = text.read();
        if (items < 0) {
            return items;
        }
        text.length = 0;
        village.copyFrom(text.draft);
        now.begin(village.weights);
        keptImages = 0;
        return items;
    }

    public int house(int h, int what) {
        if (!isHouse(h) || what < 0 || what > 6) {
            return BAD;
        }
        switch (what) {
            case 4:
                return village.eats[h];
            case 5:
                return village.barred[h];
            case 6:
                return now.brought[h];
            default:
                return now.weights.of(h, what);
        }
    }

    public int told(int what) {
        switch (what) {
            case 0:
                return village.law;
            case 1:
                return village.pride;
            case 2:
                return village.memory;
            default:
                return BAD;
        }
    }

    // ---- an evening

    public int brings(int h, int s) {
        if (!isHouse(h) || !isSort(s)) {
            return BAD;
        }
        if (now.weights.of(h, s) == 0 || now.brought[h] != NONE || now.eaten) {
            return STATE;
        }
        now.carry(h, s, dish(h));
        return dish(h);
    }

    public int evening() {
        if (now.eaten) {
            return STATE;
        }
        int bringing = 0;
        for (int h = 0; h < MOST_HOUSES; h++) {
            int s = now.brought[h] == NONE ? chosen(h) : NONE;
            if (s != NONE) {
                now.carry(h, s, dish(h));
                bringing++;
            }
        }
        return bringing;
    }

    public int table(int s, int what) {
        if (!isSort(s)) {
            return BAD;
        }
        switch (what) {
            case 0:
                return spoonsBrought(s);
            case 1:
                return now.left[s];
            case 2:
                return now.bringersOf(s);
            default:
                return BAD;
        }
    }

    public int eat(int way) {
        if (way != 0 && way != 1) {
            return BAD;
        }
        if (now.eaten) {
            return STATE;
        }
        int spoons = 0;
        for (int i = 0; i < MOST_HOUSES; i++) {
            int h = way == 0 ? i : MOST_HOUSES - 1 - i;
            spoons += now.feed(h, village.eats[h], village.barred[h]);
        }
        now.eaten = true;
        return spoons;
    }

    public int ate(int h, int s) {
        if (!isHouse(h) || !isSort(s)) {
            return BAD;
        }
        return now.spoonsOf(h, s);
    }

    public int hungry(int h) {
        if (!isHouse(h)) {
            return BAD;
        }
        if (!now.eaten) {
            return STATE;
        }
        return village.eats[h] - now.allSpoonsOf(h);
    }

    public int year() {
        for (int s = 0; s < SORTS; s++) {
            now.weights.pass(s, now.bringersOf(s), village.memory);
        }
        now.clearTable();
        now.year++;
        return now.year;
    }

    public int lot(int v) {
        int was = now.lot;
        now.lot = v;
        return was;
    }

    // ---- odds and calls

    public long odds(int s, int k, int what) {
        if (!isSort(s) || k < 0 || k > MOST_HOUSES || !isHalf(what)) {
            return NO;
        }
        chances.countBringers(now.weights, s);
        return inLeastTerms(chances.waysFrom(k), chances.waysFrom(0), what);
    }

    public long all(int what) {
        if (!isHalf(what)) {
            return NO;
        }
        chances.leaveAllFree(now.weights);
        return inLeastTerms(chances.waysToAll(), chances.waysInAll(), what);
    }

    public int call(int a, int b, int h) {
        if (b < 1 || b > 99 || a < 0 || a > b || h != -1 && !isHouse(h)) {
            return BAD;
        }
        int fewest = chances.fewestTold(now.weights, a, b);
        return fewest == NONE || h == -1 ? fewest : chances.told[h];
    }

    public int shared() {
        int least = crossing(0);
        for (int sorts = 1; sorts < SORT_SETS; sorts++) {
            least = Math.min(least, crossing(sorts));
        }
        return least;
    }

    public int swings(int what) {
        if (!isHalf(what)) {
            return BAD;
        }
        if (!years.comeRound(now.weights, village.memory)) {
            return NONE;
        }
        return what == 0 ? years.first : years.later;
    }

    // ---- who fell ill, thrift

    public int ill(int h, int is) {
        if (!isHouse(h) || is != 0 && is != 1) {
            return BAD;
        }
        if (!now.eaten) {
            return STATE;
        }
        int health = is == 1 ? ILL : WELL;
        int news = now.health[h] == health ? 0 : 1;
        now.health[h] = health;
        return news;
    }

    public int suspects() {
        int sorts = 0;
        for (int s = 0; s < SORTS; s++) {
            if (isSuspect(s)) {
                sorts |= 1 << s;
            }
        }
        return sorts;
    }

    public int rests(int c, int w, int what) {
        if (c < 1 || c > 99 || w < 1 || w > 99 || !isHalf(what)) {
            return BAD;
        }
        noteFavourites();
        int many = 0;
        int first = NONE;
        for (int who = 0; who < HOUSE_SETS; who++) {
            if (isRest(who, c, w)) {
                many++;
                first = first == NONE ? who : first;
            }
        }
        return what == 0 ? many : first;
    }

    // ---- kinds, images

    public int rate(int kind, int h) {
        if (!isHouse(h)) {
            return NO;
        }
        switch (kind) {
            case 0:
                return asHouse(h);
            case 1:
                return asCook(h);
            case 2:
                return asWidow(h);
            case 3:
                return asBaker(h);
            case 4:
                return asParson(h);
            case 5:
                return asNewcomer(h);
            default:
                return NO;
        }
    }

    public int keep(int image) {
        if (!isHalf(image)) {
            return BAD;
        }
        imageOf(image).copyFrom(now);
        keptImages |= 1 << image;
        return now.year;
    }

    public int back(int image) {
        if (!isHalf(image)) {
            return BAD;
        }
        if ((keptImages >> image & 1) == 0) {
            return STATE;
        }
        now.copyFrom(imageOf(image));
        return now.year;
    }

    public int count(int what) {
        switch (what) {
            case 0:
                return village.houses;
            case 1:
                return now.bringers();
            case 2:
                return now.spoonsLeft();
            case 3:
                return now.toldHealths();
            case 4:
                return now.year;
            case 5:
                return text.length;
            default:
                return BAD;
        }
    }

    public long trace() {
        return asked;
    }

    // ---- what the face is made of

    private boolean isHouse(int h) {
        return h >= 0 && h < village.houses;
    }

    private static boolean isSort(int s) {
        return s >= 0 && s < SORTS;
    }

    /** One of two: an upper or a lower number, the first or the second of two answers or images. */
    private static boolean isHalf(int what) {
        return what == 0 || what == 1;
    }

    private Now imageOf(int image) {
        return image == 0 ? firstImage : secondImage;
    }

    private int dish(int h) {
        return village.eats[h] + village.pride;
    }

    private int spoonsBrought(int s) {
        int spoons = 0;
        for (int h = 0; h < MOST_HOUSES; h++) {
            if (now.brought[h] == s) {
                spoons += dish(h);
            }
        }
        return spoons;
    }

    /** The sort that a house chooses by law; NONE if it can bring none. */
    private int chosen(int h) {
        switch (village.law) {
            case FREE:
                return now.drawn(h);
            case LETTERS:
                return now.weights.nextFrom(h % SORTS, h);
            default:
                return now.seenOnBoard(h);
        }
    }

    /**
     * What is eaten of the sorts outside a set is at most what was brought of them, and of the set
     * at most what those eat who may eat some of it. The most that can be eaten is the least of
     * these bounds over all sets (the greatest flow is the least cut).
     */
    private int crossing(int sorts) {
        int bound = 0;
        for (int s = 0; s < SORTS; s++) {
            if ((sorts >> s & 1) == 0) {
                bound += spoonsBrought(s);
            }
        }
        for (int h = 0; h < MOST_HOUSES; h++) {
            if ((sorts & ~village.barred[h]) != 0) {
                bound += village.eats[h];
            }
        }
        return bound;
    }

    private boolean isSuspect(int s) {
        for (int h = 0; h < MOST_HOUSES; h++) {
            boolean some = now.spoonsOf(h, s) > 0;
            if (now.health[h] == ILL && !some || now.health[h] == WELL && some) {
                return false;
            }
        }
        return true;
    }

    private void noteFavourites() {
        for (int h = 0; h < MOST_HOUSES; h++) {
            favourites[h] = now.weights.heaviest(h);
        }
    }

    private boolean isRest(int who, int c, int w) {
        for (int h = 0; h < MOST_HOUSES; h++) {
            boolean bringing = (who >> h & 1) == 1;
            int gain = favourites[h] == NONE || isThereWithout(h, who) ? 0 : w;
            boolean regrets = bringing ? gain < c : gain > c;
            if (regrets) {
                return false;
            }
        }
        return true;
    }

    private boolean isThereWithout(int h, int who) {
        for (int other = 0; other < MOST_HOUSES; other++) {
            if (other != h && (who >> other & 1) == 1 && favourites[other] == favourites[h]) {
                return true;
            }
        }
        return false;
    }

    private int asHouse(int h) {
        asked += 1;
        return village.eats[h];
    }

    private int asCook(int h) {
        asked += 10;
        return asHouse(h) + now.weights.sortsOf(h);
    }

    private int asWidow(int h) {
        asked += 100;
        return asHouse(h) - now.allSpoonsOf(h);
    }

    private int asBaker(int h) {
        asked += 1000;
        return 2 * asCook(h);
    }

    private int asParson(int h) {
        asked += 10000;
        return asWidow(h) + h;
    }

    private int asNewcomer(int h) {
        asked += 100000;
        return asHouse(h) + now.year;
    }

    private static long inLeastTerms(long upper, long lower, int what) {
        long part = what == 0 ? upper : lower;
        long divisor = greatestDivisor(upper, lower);
        return divisor == 0 ? part : part / divisor;
    }

    private static long greatestDivisor(long one, long other) {
        long a = one;
        long b = other;
        // Euclid's rows are at most some 90 steps long for any long.
        for (int step = 0; step < 100 && b != 0; step++) {
            long rest = a % b;
            a = b;
            b = rest;
        }
        return a;
    }

    /** Of each house and sort a weight. */
    private static final class Weights {
        private final int[] cells = new int[MOST_HOUSES * SORTS];

        private int of(int h, int s) {
            return cells[h * SORTS + s];
        }

        private void put(int h, int s, int weight) {
            cells[h * SORTS + s] = weight;
        }

        private void empty() {
            for (int i = 0; i < cells.length; i++) {
                cells[i] = 0;
            }
        }

        private void copyFrom(Weights other) {
            System.arraycopy(other.cells, 0, cells, 0, cells.length);
        }

        private int together(int h) {
            int sum = 0;
            for (int s = 0; s < SORTS; s++) {
                sum += of(h, s);
            }
            return sum;
        }

        private int sortsOf(int h) {
            int many = 0;
            for (int s = 0; s < SORTS; s++) {
                if (of(h, s) > 0) {
                    many++;
                }
            }
            return many;
        }

        /** The sort of the greatest weight, of several the least; NONE if it can bring none. */
        private int heaviest(int h) {
            int best = NONE;
            int most = 0;
            for (int s = 0; s < SORTS; s++) {
                if (of(h, s) > most) {
                    best = s;
                    most = of(h, s);
                }
            }
            return best;
        }

        /** The first sort from one on, round, that a house can bring; NONE if there is none. */
        private int nextFrom(int start, int h) {
            for (int i = 0; i < SORTS; i++) {
                int s = (start + i) % SORTS;
                if (of(h, s) > 0) {
                    return s;
                }
            }
            return NONE;
        }

        /** A year's change of one sort's weights, by how many houses brought it. */
        private void pass(int s, int bringers, int memory) {
            int change = bringers == 0 ? memory : bringers == 1 ? 0 : -memory;
            for (int h = 0; h < MOST_HOUSES; h++) {
                int weight = of(h, s);
                if (weight > 0) {
                    put(h, s, Math.max(1, Math.min(HEAVIEST, weight + change)));
                }
            }
        }

        /** Twelve weights, of three houses from one on, as one number: four bits hold a weight. */
        private long packed(int firstHouse) {
            long number = 0;
            for (int h = firstHouse; h < firstHouse + 3; h++) {
                for (int s = 0; s < SORTS; s++) {
                    number = number << 4 | of(h, s);
                }
            }
            return number;
        }
    }

    /** What a text tells; no evening and no year changes it. */
    private static final class Village {
        private final Weights weights = new Weights();
        private final int[] eats = new int[MOST_HOUSES];
        private final int[] barred = new int[MOST_HOUSES];
        private int houses = 0;
        private int law = FREE;
        private int pride = 0;
        private int memory = 1;

        private void empty() {
            weights.empty();
            for (int h = 0; h < MOST_HOUSES; h++) {
                eats[h] = 0;
                barred[h] = 0;
            }
            houses = 0;
            law = FREE;
            pride = 0;
            memory = 1;
        }

        /** A house's weights, and behind them what it eats. */
        private void addHouse(int[] numbers) {
            if (houses >= MOST_HOUSES || numbers.length <= SORTS) {
                return;
            }
            for (int s = 0; s < SORTS; s++) {
                weights.put(houses, s, numbers[s]);
            }
            eats[houses] = numbers[SORTS];
            houses++;
        }

        private void bar(int h, int s) {
            barred[h] |= 1 << s;
        }

        private void copyFrom(Village other) {
            weights.copyFrom(other.weights);
            System.arraycopy(other.eats, 0, eats, 0, MOST_HOUSES);
            System.arraycopy(other.barred, 0, barred, 0, MOST_HOUSES);
            houses = other.houses;
            law = other.law;
            pride = other.pride;
            memory = other.memory;
        }
    }

    /** All that an image keeps. */
    private static final class Now {
        private final Weights weights = new Weights();
        private final int[] brought = new int[MOST_HOUSES];
        private final int[] left = new int[SORTS];
        private final int[] spoons = new int[MOST_HOUSES * SORTS];
        private final int[] health = new int[MOST_HOUSES];
        private boolean eaten = false;
        private int year = 0;
        private int lot = 0;

        private Now() {
            clearTable();
        }

        private void begin(Weights told) {
            weights.copyFrom(told);
            clearTable();
            year = 0;
        }

        private void clearTable() {
            for (int h = 0; h < MOST_HOUSES; h++) {
                brought[h] = NONE;
                health[h] = UNTOLD;
            }
            for (int s = 0; s < SORTS; s++) {
                left[s] = 0;
            }
            for (int i = 0; i < spoons.length; i++) {
                spoons[i] = 0;
            }
            eaten = false;
        }

        private void copyFrom(Now other) {
            weights.copyFrom(other.weights);
            System.arraycopy(other.brought, 0, brought, 0, MOST_HOUSES);
            System.arraycopy(other.left, 0, left, 0, SORTS);
            System.arraycopy(other.spoons, 0, spoons, 0, spoons.length);
            System.arraycopy(other.health, 0, health, 0, MOST_HOUSES);
            eaten = other.eaten;
            year = other.year;
            lot = other.lot;
        }

        private void carry(int h, int s, int dish) {
            brought[h] = s;
            left[s] += dish;
        }

        private int drawn(int h) {
            int together = weights.together(h);
            if (together == 0) {
                return NONE;
            }
            lot = lot * 1103515245 + 12345;
            int draw = (lot >>> 16) % together;
            int sum = 0;
            for (int s = 0; s < SORTS; s++) {
                sum += weights.of(h, s);
                if (sum > draw) {
                    return s;
                }
            }
            return NONE;
        }

        private int seenOnBoard(int h) {
            int best = NONE;
            for (int s = 0; s < SORTS; s++) {
                if (weights.of(h, s) > 0 && (best == NONE || isBetter(h, s, best))) {
                    best = s;
                }
            }
            return best;
        }

        private boolean isBetter(int h, int s, int best) {
            int fewer = bringersOf(best) - bringersOf(s);
            return fewer > 0 || fewer == 0 && weights.of(h, s) > weights.of(h, best);
        }

        private int feed(int h, int eats, int barred) {
            for (int had = 0; had < eats; had++) {
                int s = fullest(barred);
                if (s == NONE) {
                    return had;
                }
                left[s]--;
                spoons[h * SORTS + s]++;
            }
            return eats;
        }

        private int fullest(int barred) {
            int best = NONE;
            int most = 0;
            for (int s = 0; s < SORTS; s++) {
                if ((barred >> s & 1) == 0 && left[s] > most) {
                    best = s;
                    most = left[s];
                }
            }
            return best;
        }

        private int spoonsOf(int h, int s) {
            return spoons[h * SORTS + s];
        }

        private int allSpoonsOf(int h) {
            int sum = 0;
            for (int s = 0; s < SORTS; s++) {
                sum += spoonsOf(h, s);
            }
            return sum;
        }

        private int bringersOf(int s) {
            int many = 0;
            for (int h = 0; h < MOST_HOUSES; h++) {
                if (brought[h] == s) {
                    many++;
                }
            }
            return many;
        }

        private int bringers() {
            int many = 0;
            for (int s = 0; s < SORTS; s++) {
                many += bringersOf(s);
            }
            return many;
        }

        private int spoonsLeft() {
            int sum = 0;
            for (int s = 0; s < SORTS; s++) {
                sum += left[s];
            }
            return sum;
        }

        private int toldHealths() {
            int many = 0;
            for (int h = 0; h < MOST_HOUSES; h++) {
                if (health[h] != UNTOLD) {
                    many++;
                }
            }
            return many;
        }
    }

    /** The text, and the reading of it into a draft that counts only if all of it can stand. */
    private static final class Text {
        private static final int END = 0, WRONG = 1, NUMBER = 2, STOP = 3;
        private static final int HOUSE = 4, BAR = 5, LAW = 6, PRIDE = 7, MEMORY = 8;
        private static final int NO_ITEM = 0;
        private static final int FAULT = -10;

        private final byte[] bytes = new byte[MOST_BYTES];
        private final Village draft = new Village();
        private final int[] numbers = new int[SORTS + 1];
        private int length = 0;
        private int at = 0;
        private int place = 0;
        private int token = END;
        private int number = 0;
        private int item = NO_ITEM;
        private int taken = 0;
        private int once = 0;

        private void add(long v, int n) {
            for (int shift = 8 * (n - 1); shift >= 0 && length < MOST_BYTES; shift -= 8) {
                bytes[length] = (byte) (v >> shift);
                length++;
            }
        }

        /** How many items, or -10 less the place of the fault. */
        private int read() {
            draft.empty();
            at = 0;
            item = NO_ITEM;
            once = 0;
            int items = 0;
            // Each token is a byte at least, so the end comes ahead of the last round.
            for (int round = 0; round <= MOST_BYTES; round++) {
                next();
                if (token == END && item == NO_ITEM) {
                    return items;
                }
                if (!canStand()) {
                    return FAULT - place;
                }
                if (token == STOP) {
                    items++;
                }
            }
            return FAULT - place;
        }

        /** Takes the token, if it can stand where it does. */
        private boolean canStand() {
            if (item == NO_ITEM) {
                return beginItem();
            }
            if (taken < numbersOf(item) && taken < numbers.length) {
                return takeNumber();
            }
            return endItem();
        }

        private boolean beginItem() {
            boolean isRule = token == LAW || token == PRIDE || token == MEMORY;
            if (token == HOUSE && draft.houses < MOST_HOUSES || token == BAR
                    || isRule && (once >> token & 1) == 0) {
                once |= 1 << token;
                item = token;
                taken = 0;
                return true;
            }
            return false;
        }

        private boolean takeNumber() {
            int least = item == HOUSE && taken == SORTS ? 1 : 0;
            if (token != NUMBER || number < least || number > greatestNumber()) {
                return false;
            }
            numbers[taken] = number;
            taken++;
            return true;
        }

        private boolean endItem() {
            if (token != STOP) {
                return false;
            }
            switch (item) {
                case HOUSE:
                    draft.addHouse(numbers);
                    break;
                case BAR:
                    draft.bar(numbers[0], numbers[1]);
                    break;
                case LAW:
                    draft.law = numbers[0];
                    break;
                case PRIDE:
                    draft.pride = numbers[0];
                    break;
                default:
                    draft.memory = numbers[0];
                    break;
            }
            item = NO_ITEM;
            return true;
        }

        private static int numbersOf(int item) {
            switch (item) {
                case HOUSE:
                    return SORTS + 1;
                case BAR:
                    return 2;
                default:
                    return 1;
            }
        }

        private int greatestNumber() {
            switch (item) {
                case BAR:
                    return taken == 0 ? draft.houses - 1 : SORTS - 1;
                case LAW:
                    return BOARD;
                default:
                    return 9;
            }
        }

        /** Reads a token; at the end its place is the text's length. */
        private void next() {
            while (at < length && bytes[at] == ' ') {
                at++;
            }
            place = at;
            if (at >= length) {
                token = END;
            } else if (isLetter(bytes[at])) {
                nextWord();
            } else if (isDigit(bytes[at])) {
                nextNumber();
            } else {
                token = bytes[at] == ';' ? STOP : WRONG;
                at++;
            }
        }

        private void nextWord() {
            while (at < length && isLetter(bytes[at])) {
                at++;
            }
            if (isWord("house")) {
                token = HOUSE;
            } else if (isWord("bar")) {
                token = BAR;
            } else if (isWord("law")) {
                token = LAW;
            } else if (isWord("pride")) {
                token = PRIDE;
            } else if (isWord("memory")) {
                token = MEMORY;
            } else {
                token = WRONG;
            }
        }

        private boolean isWord(String word) {
            if (at - place != word.length()) {
                return false;
            }
            for (int i = 0; i < word.length(); i++) {
                if (bytes[place + i] != word.charAt(i)) {
                    return false;
                }
            }
            return true;
        }

        private void nextNumber() {
            number = 0;
            while (at < length && isDigit(bytes[at])) {
                // Held at 100, which is too much already, so that a long row can't wrap round.
                number = Math.min(100, number * 10 + bytes[at] - '0');
                at++;
            }
            boolean zeroAhead = at - place > 1 && bytes[place] == '0';
            token = number > 99 || zeroAhead ? WRONG : NUMBER;
        }

        private static boolean isLetter(byte b) {
            return b >= 'a' && b <= 'z';
        }

        private static boolean isDigit(byte b) {
            return b >= '0' && b <= '9';
        }
    }

    /**
     * Counts ways, each as heavy as the weights of what the houses bring in it, multiplied. All
     * ways together are 36 to the 6th at most, which a long holds, times 99 too.
     */
    private static final class Chances {
        private final long[] ways = new long[MOST_HOUSES + 1];
        private final long[] avoiding = new long[MOST_HOUSES * SORT_SETS];
        private final long[] rows = new long[(MOST_HOUSES + 1) * SORT_SETS];
        private final int[] told = new int[MOST_HOUSES];
        private int a = 0;
        private int b = 1;

        /** Of each number of houses, the ways in which just so many bring a sort. */
        private void countBringers(Weights weights, int s) {
            for (int k = 0; k < ways.length; k++) {
                ways[k] = k == 0 ? 1 : 0;
            }
            for (int h = 0; h < MOST_HOUSES; h++) {
                int together = weights.together(h);
                if (together > 0) {
                    addBringer(weights.of(h, s), together - weights.of(h, s));
                }
            }
        }

        private void addBringer(int bringing, int other) {
            for (int k = MOST_HOUSES; k > 0; k--) {
                ways[k] = ways[k] * other + ways[k - 1] * bringing;
            }
            ways[0] *= other;
        }

        private long waysFrom(int k) {
            long sum = 0;
            for (int many = k; many <= MOST_HOUSES; many++) {
                sum += ways[many];
            }
            return sum;
        }

        private void leaveAllFree(Weights weights) {
            prepare(weights);
            for (int h = 0; h < MOST_HOUSES; h++) {
                decide(h, NOTHING);
            }
        }

        /** How many houses are told; the row then says what each is. */
        private int fewestTold(Weights weights, int least, int of) {
            a = least;
            b = of;
            prepare(weights);
            for (int many = 0; many <= SORTS; many++) {
                if (tell(this, weights, 0, many, 0)) {
                    return many;
                }
            }
            return NONE;
        }

        /**
         * Whether telling so many more houses, from h on, is likely enough; the first such row
         * stays told. No sort is told twice: left free, the second house would do no harm, so the
         * row would not be of the fewest.
         */
        private static boolean tell(Chances row, Weights weights, int h, int more, int used) {
            if (h >= MOST_HOUSES) {
                return more == 0 && row.isLikely();
            }
            if (more > MOST_HOUSES - h) {
                return false;
            }
            row.decide(h, NOTHING);
            if (tell(row, weights, h + 1, more, used)) {
                return true;
            }
            for (int s = 0; s < SORTS && more > 0; s++) {
                if (weights.of(h, s) > 0 && (used >> s & 1) == 0) {
                    row.decide(h, s);
                    if (tell(row, weights, h + 1, more - 1, used | 1 << s)) {
                        return true;
                    }
                }
            }
            return false;
        }

        private boolean isLikely() {
            return waysToAll() * b >= waysInAll() * a;
        }

        private void prepare(Weights weights) {
            for (int sorts = 0; sorts < SORT_SETS; sorts++) {
                rows[sorts] = 1;
            }
            for (int h = 0; h < MOST_HOUSES; h++) {
                for (int sorts = 0; sorts < SORT_SETS; sorts++) {
                    avoiding[h * SORT_SETS + sorts] = waysAvoiding(weights, h, sorts);
                }
            }
        }

        private static long waysAvoiding(Weights weights, int h, int sorts) {
            if (weights.together(h) == 0) {
                return 1;
            }
            long sum = 0;
            for (int s = 0; s < SORTS; s++) {
                if ((sorts >> s & 1) == 0) {
                    sum += weights.of(h, s);
                }
            }
            return sum;
        }

        /**
         * For each set of sorts the ways in which houses up to h bring none of it. A told house
         * weighs as much as if it were free, so that the ways in all stay the same.
         */
        private void decide(int h, int s) {
            told[h] = s;
            for (int sorts = 0; sorts < SORT_SETS; sorts++) {
                long factor = avoiding[h * SORT_SETS + sorts];
                if (s != NOTHING) {
                    factor = (sorts >> s & 1) == 1 ? 0 : avoiding[h * SORT_SETS];
                }
                rows[(h + 1) * SORT_SETS + sorts] = rows[h * SORT_SETS + sorts] * factor;
            }
        }

        private long waysInAll() {
            return rows[MOST_HOUSES * SORT_SETS];
        }

        /** By inclusion and exclusion: all ways, less those without one sort, and so on. */
        private long waysToAll() {
            long sum = 0;
            for (int sorts = 0; sorts < SORT_SETS; sorts++) {
                long part = rows[MOST_HOUSES * SORT_SETS + sorts];
                sum += Integer.bitCount(sorts) % 2 == 0 ? part : -part;
            }
            return sum;
        }
    }

    /** Years in which each house brings what it likes most, until weights come round. */
    private static final class Years {
        private final Weights weights = new Weights();
        private final long[] early = new long[MOST_YEARS + 1];
        private final long[] late = new long[MOST_YEARS + 1];
        private final int[] bringers = new int[SORTS];
        private int first = 0;
        private int later = 0;

        private boolean comeRound(Weights from, int memory) {
            weights.copyFrom(from);
            for (int y = 0; y <= MOST_YEARS; y++) {
                early[y] = weights.packed(0);
                late[y] = weights.packed(3);
                first = yearLike(y);
                if (first != NONE) {
                    later = y - first;
                    return true;
                }
                goOn(memory);
            }
            return false;
        }

        private int yearLike(int y) {
            for (int before = 0; before < y; before++) {
                if (early[before] == early[y] && late[before] == late[y]) {
                    return before;
                }
            }
            return NONE;
        }

        private void goOn(int memory) {
            for (int s = 0; s < SORTS; s++) {
                bringers[s] = 0;
            }
            for (int h = 0; h < MOST_HOUSES; h++) {
                int s = weights.heaviest(h);
                if (s != NONE) {
                    bringers[s]++;
                }
            }
            for (int s = 0; s < SORTS; s++) {
                weights.pass(s, bringers[s], memory);
            }
        }
    }
}
