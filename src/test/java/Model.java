import java.math.BigInteger;
import java.util.ArrayList;
import java.util.Arrays;
import java.util.HashMap;
import java.util.List;
import java.util.Map;

/**
 * The document's promises, told a second time and as plainly as they can be: what the class finds by
 * thought is found here by trying everything. Only tests use it; it may be slow.
 */
final class Model {
    private static final int BAD = -1, STATE = -2, FULL = -3, NONE = -9, NO = -1000000;

    /** A text's fault, at a place. */
    private static final class Fault extends Exception {
        private static final long serialVersionUID = 1;
        private final int place;

        Fault(int place) {
            this.place = place;
        }
    }

    /** What a text tells of a house. */
    private record House(int number, int[] weights, int eats, boolean[] barred) {
    }

    private record Token(String sign, int place) {
    }

    /** All that an image keeps. */
    private static final class Moment {
        int year = 0;
        int lot = 1;
        boolean eaten = false;
        List<int[]> weights = new ArrayList<>();
        Map<Integer, Integer> brought = new HashMap<>();
        Map<Integer, Boolean> ill = new HashMap<>();
        int[] left = new int[4];
        int[][] ate = new int[6][4];

        Moment copy() {
            Moment other = new Moment();
            other.year = year;
            other.lot = lot;
            other.eaten = eaten;
            for (int[] w : weights) {
                other.weights.add(w.clone());
            }
            other.brought.putAll(brought);
            other.ill.putAll(ill);
            other.left = left.clone();
            for (int h = 0; h < 6; h++) {
                other.ate[h] = ate[h].clone();
            }
            return other;
        }

        void clean() {
            brought.clear();
            ill.clear();
            eaten = false;
            left = new int[4];
            ate = new int[6][4];
        }
    }

    private StringBuilder text = new StringBuilder();
    private List<House> houses = new ArrayList<>();
    private Map<String, Integer> rules = new HashMap<>();
    private Moment now = new Moment();
    private Moment[] images = new Moment[2];
    private long trace = 0;

    // ---- the village

    int type(long v, int n) {
        if (n < 1 || n > 8) {
            return BAD;
        }
        if (text.length() + n > 300) {
            return FULL;
        }
        for (int i = n - 1; i >= 0; i--) {
            text.append((char) (v >>> 8 * i & 255));
        }
        return text.length();
    }

    int clear() {
        int had = text.length();
        text = new StringBuilder();
        return had;
    }

    int village() {
        List<House> newHouses = new ArrayList<>();
        Map<String, Integer> newRules = new HashMap<>();
        int items;
        try {
            items = read(tokens(), newHouses, newRules);
        } catch (Fault fault) {
            return -10 - fault.place;
        }
        houses = newHouses;
        rules = newRules;
        text = new StringBuilder();
        int lot = now.lot;
        now = new Moment();
        now.lot = lot;
        for (House house : houses) {
            now.weights.add(house.weights.clone());
        }
        images = new Moment[2];
        return items;
    }

    private List<Token> tokens() {
        List<Token> tokens = new ArrayList<>();
        int at = 0;
        while (at < text.length()) {
            int from = at;
            String rest = text.substring(at);
            String word = leading(rest, 'a', 'z');
            String digits = leading(rest, '0', '9');
            at += Math.max(1, Math.max(word.length(), digits.length()));
            if (rest.charAt(0) != ' ') {
                tokens.add(new Token(text.substring(from, at), from));
            }
        }
        return tokens;
    }

    private static String leading(String rest, char least, char most) {
        int n = 0;
        while (n < rest.length() && rest.charAt(n) >= least && rest.charAt(n) <= most) {
            n++;
        }
        return rest.substring(0, n);
    }

    private int read(List<Token> tokens, List<House> into, Map<String, Integer> ruled) throws Fault {
        int items = 0;
        int[] at = {0};
        while (at[0] < tokens.size()) {
            Token first = tokens.get(at[0]++);
            switch (first.sign) {
                case "house" -> {
                    if (into.size() == 6) {
                        throw new Fault(first.place);
                    }
                    int[] w = new int[4];
                    for (int s = 0; s < 4; s++) {
                        w[s] = number(tokens, at, 0, 9);
                    }
                    into.add(new House(into.size(), w, number(tokens, at, 1, 9), new boolean[4]));
                }
                case "bar" -> {
                    House house = into.get(number(tokens, at, 0, into.size() - 1));
                    house.barred[number(tokens, at, 0, 3)] = true;
                }
                case "law", "pride", "memory" -> {
                    if (ruled.containsKey(first.sign)) {
                        throw new Fault(first.place);
                    }
                    ruled.put(first.sign, number(tokens, at, 0, first.sign.equals("law") ? 2 : 9));
                }
                default -> throw new Fault(first.place);
            }
            if (at[0] == tokens.size()) {
                throw new Fault(text.length());
            }
            Token last = tokens.get(at[0]++);
            if (!last.sign.equals(";")) {
                throw new Fault(last.place);
            }
            items++;
        }
        return items;
    }

    private int number(List<Token> tokens, int[] at, int least, int most) throws Fault {
        if (at[0] == tokens.size()) {
            throw new Fault(text.length());
        }
        Token token = tokens.get(at[0]++);
        if (!token.sign.matches("0|[1-9][0-9]?")) {
            throw new Fault(token.place);
        }
        int n = Integer.parseInt(token.sign);
        if (n < least || n > most) {
            throw new Fault(token.place);
        }
        return n;
    }

    private int rule(String name) {
        return rules.getOrDefault(name, name.equals("memory") ? 1 : 0);
    }

    private boolean noHouse(int h) {
        return h < 0 || h >= houses.size();
    }

    private static boolean outside(int n, int least, int most) {
        return n < least || n > most;
    }

    int house(int h, int what) {
        if (noHouse(h) || outside(what, 0, 6)) {
            return BAD;
        }
        if (what < 4) {
            return now.weights.get(h)[what];
        }
        if (what == 4) {
            return houses.get(h).eats;
        }
        if (what == 6) {
            return now.brought.getOrDefault(h, NONE);
        }
        int bits = 0;
        for (int s = 0; s < 4; s++) {
            bits += houses.get(h).barred[s] ? (int) Math.pow(2, s) : 0;
        }
        return bits;
    }

    int told(int what) {
        return outside(what, 0, 2) ? BAD : rule(new String[] {"law", "pride", "memory"}[what]);
    }

    // ---- an evening

    int brings(int h, int s) {
        if (noHouse(h) || outside(s, 0, 3)) {
            return BAD;
        }
        if (now.weights.get(h)[s] == 0 || now.brought.containsKey(h) || now.eaten) {
            return STATE;
        }
        return bring(h, s);
    }

    private int bring(int h, int s) {
        int spoons = houses.get(h).eats + rule("pride");
        now.brought.put(h, s);
        now.left[s] += spoons;
        return spoons;
    }

    private boolean can(int h) {
        return Arrays.stream(now.weights.get(h)).sum() > 0;
    }

    int evening() {
        if (now.eaten) {
            return STATE;
        }
        int many = 0;
        for (House house : houses) {
            int h = house.number;
            if (!now.brought.containsKey(h) && can(h)) {
                int law = rule("law");
                bring(h, law == 0 ? free(h) : law == 1 ? letters(h) : board(h));
                many++;
            }
        }
        return many;
    }

    private int free(int h) {
        now.lot = (int) ((long) now.lot * 1103515245L + 12345L);
        List<Integer> lots = new ArrayList<>();
        for (int s = 0; s < 4; s++) {
            for (int i = 0; i < now.weights.get(h)[s]; i++) {
                lots.add(s);
            }
        }
        return lots.get((int) ((now.lot & 0xffffffffL) / 65536 % lots.size()));
    }

    private int letters(int h) {
        int s = h % 4;
        while (now.weights.get(h)[s] == 0) {
            s = s == 3 ? 0 : s + 1;
        }
        return s;
    }

    private int board(int h) {
        for (int bringers = 0; bringers <= 6; bringers++) {
            for (int weight = 9; weight >= 1; weight--) {
                for (int s = 0; s < 4; s++) {
                    if (now.weights.get(h)[s] == weight && table(s, 2) == bringers) {
                        return s;
                    }
                }
            }
        }
        throw new IllegalStateException();
    }

    int table(int s, int what) {
        if (outside(s, 0, 3) || outside(what, 0, 2)) {
            return BAD;
        }
        if (what == 1) {
            return now.left[s];
        }
        int spoons = 0;
        int many = 0;
        for (Map.Entry<Integer, Integer> e : now.brought.entrySet()) {
            if (e.getValue() == s) {
                spoons += houses.get(e.getKey()).eats + rule("pride");
                many++;
            }
        }
        return what == 0 ? spoons : many;
    }

    int eat(int way) {
        if (outside(way, 0, 1)) {
            return BAD;
        }
        if (now.eaten) {
            return STATE;
        }
        List<House> order = new ArrayList<>(houses);
        if (way == 1) {
            java.util.Collections.reverse(order);
        }
        int spoons = 0;
        for (House house : order) {
            while (Arrays.stream(now.ate[house.number]).sum() < house.eats && spoon(house)) {
                spoons++;
            }
        }
        now.eaten = true;
        return spoons;
    }

    private boolean spoon(House house) {
        for (int most = 200; most >= 1; most--) {
            for (int s = 0; s < 4; s++) {
                if (now.left[s] == most && !house.barred[s]) {
                    now.left[s]--;
                    now.ate[house.number][s]++;
                    return true;
                }
            }
        }
        return false;
    }

    int ate(int h, int s) {
        return noHouse(h) || outside(s, 0, 3) ? BAD : now.ate[h][s];
    }

    int hungry(int h) {
        if (noHouse(h)) {
            return BAD;
        }
        return now.eaten ? houses.get(h).eats - Arrays.stream(now.ate[h]).sum() : STATE;
    }

    int year() {
        int[] bringers = new int[4];
        for (int s : now.brought.values()) {
            bringers[s]++;
        }
        now.weights = aged(now.weights, bringers);
        now.clean();
        return ++now.year;
    }

    private List<int[]> aged(List<int[]> weights, int[] bringers) {
        List<int[]> older = new ArrayList<>();
        for (int[] w : weights) {
            int[] o = w.clone();
            for (int s = 0; s < 4; s++) {
                for (int i = 0; i < rule("memory"); i++) {
                    if (bringers[s] == 0 && o[s] > 0 && o[s] < 9) {
                        o[s]++;
                    } else if (bringers[s] >= 2 && o[s] > 1) {
                        o[s]--;
                    }
                }
            }
            older.add(o);
        }
        return older;
    }

    int lot(int v) {
        int was = now.lot;
        now.lot = v;
        return was;
    }

    // ---- odds and calls

    long odds(int s, int k, int what) {
        if (outside(s, 0, 3) || outside(k, 0, 6) || outside(what, 0, 1)) {
            return NO;
        }
        return part(try4(0, new int[4], 1, s, k), try4(0, new int[4], 1, s, 0), what);
    }

    long all(int what) {
        if (outside(what, 0, 1)) {
            return NO;
        }
        return part(try4(0, new int[4], 1, -1, 1), try4(0, new int[4], 1, 0, 0), what);
    }

    /** The weight of all rows in which sort s (-1: each of the four) is brought by k or more. */
    private long try4(int h, int[] brought, long weight, int s, int k) {
        if (h == houses.size()) {
            boolean so = true;
            for (int t = 0; t < 4; t++) {
                so &= s != -1 && s != t || brought[t] >= k;
            }
            return so ? weight : 0;
        }
        if (!can(h)) {
            return try4(h + 1, brought, weight, s, k);
        }
        long sum = 0;
        for (int t = 0; t < 4; t++) {
            int w = now.weights.get(h)[t];
            if (w > 0) {
                brought[t]++;
                sum += try4(h + 1, brought, weight * w, s, k);
                brought[t]--;
            }
        }
        return sum;
    }

    private static long part(long upper, long lower, int what) {
        BigInteger u = BigInteger.valueOf(upper);
        BigInteger l = BigInteger.valueOf(lower);
        return (what == 0 ? u : l).divide(u.gcd(l)).longValueExact();
    }

    int call(int a, int b, int h) {
        if (outside(a, 0, 99) || outside(b, 1, 99) || a > b || h != -1 && noHouse(h)) {
            return BAD;
        }
        int n = houses.size();
        int[] best = null;
        int fewest = 7;
        int rows = (int) Math.round(Math.pow(5, n));
        for (int row = 0; row < rows; row++) {
            int[] told = new int[n];
            int many = 0;
            int rest = row;
            for (int i = n - 1; i >= 0; i--) {
                told[i] = rest % 5 - 1;
                rest /= 5;
                many += told[i] >= 0 ? 1 : 0;
            }
            if (many < fewest && isLikely(told, a, b)) {
                fewest = many;
                best = told;
            }
        }
        if (best == null) {
            return NONE;
        }
        return h == -1 ? fewest : best[h] == -1 ? 9 : best[h];
    }

    private boolean isLikely(int[] told, int a, int b) {
        long lower = 1;
        long[] ways = new long[16];
        ways[0] = 1;
        for (int h = 0; h < told.length; h++) {
            int[] w = now.weights.get(h);
            if (told[h] >= 0 && w[told[h]] == 0) {
                return false;
            }
            if (can(h)) {
                long[] next = new long[16];
                for (int set = 0; set < 16; set++) {
                    for (int s = 0; s < 4; s++) {
                        int share = told[h] < 0 ? w[s] : told[h] == s ? 1 : 0;
                        next[set | 1 << s] += ways[set] * share;
                    }
                }
                lower *= told[h] < 0 ? w[0] + w[1] + w[2] + w[3] : 1;
                ways = next;
            }
        }
        return ways[15] * b >= lower * a;
    }

    int shared() {
        // Spoon by spoon along rows of exchanges, until no house can have one more.
        int[][] has = new int[6][4];
        int[] left = new int[4];
        for (int s = 0; s < 4; s++) {
            left[s] = table(s, 0);
        }
        int sum = 0;
        boolean more = true;
        while (more) {
            more = false;
            for (House house : houses) {
                if (Arrays.stream(has[house.number]).sum() < house.eats
                        && getsOne(house.number, has, left, new boolean[6])) {
                    sum++;
                    more = true;
                }
            }
        }
        return sum;
    }

    private boolean getsOne(int h, int[][] has, int[] left, boolean[] seen) {
        seen[h] = true;
        for (int s = 0; s < 4; s++) {
            if (!houses.get(h).barred[s] && left[s] > 0) {
                left[s]--;
                has[h][s]++;
                return true;
            }
        }
        for (int s = 0; s < 4; s++) {
            for (int other = 0; other < houses.size(); other++) {
                if (!houses.get(h).barred[s] && !seen[other] && has[other][s] > 0
                        && getsOne(other, has, left, seen)) {
                    has[other][s]--;
                    has[h][s]++;
                    return true;
                }
            }
        }
        return false;
    }

    int swings(int what) {
        if (outside(what, 0, 1)) {
            return BAD;
        }
        List<String> past = new ArrayList<>();
        List<int[]> weights = now.weights;
        while (past.size() < 1000) {
            StringBuilder sign = new StringBuilder();
            int[] bringers = new int[4];
            for (int[] w : weights) {
                sign.append(Arrays.toString(w));
                int s = liked(w);
                if (s >= 0) {
                    bringers[s]++;
                }
            }
            int first = past.indexOf(sign.toString());
            if (first >= 0) {
                return past.size() > 200 ? NONE : what == 0 ? first : past.size() - first;
            }
            past.add(sign.toString());
            weights = aged(weights, bringers);
        }
        return NONE;
    }

    private static int liked(int[] w) {
        for (int weight = 9; weight >= 1; weight--) {
            for (int s = 0; s < 4; s++) {
                if (w[s] == weight) {
                    return s;
                }
            }
        }
        return -1;
    }

    // ---- who fell ill, thrift

    int ill(int h, int is) {
        if (noHouse(h) || outside(is, 0, 1)) {
            return BAD;
        }
        if (!now.eaten) {
            return STATE;
        }
        Boolean was = now.ill.put(h, is == 1);
        return was != null && was == (is == 1) ? 0 : 1;
    }

    int suspects() {
        int bits = 0;
        for (int s = 0; s < 4; s++) {
            boolean so = true;
            for (Map.Entry<Integer, Boolean> e : now.ill.entrySet()) {
                so &= e.getValue() == now.ate[e.getKey()][s] > 0;
            }
            bits += so ? 1 << s : 0;
        }
        return bits;
    }

    int rests(int c, int w, int what) {
        if (outside(c, 1, 99) || outside(w, 1, 99) || outside(what, 0, 1)) {
            return BAD;
        }
        List<Integer> rests = new ArrayList<>();
        for (int who = 0; who < 1 << houses.size(); who++) {
            boolean rest = true;
            for (int h = 0; h < houses.size(); h++) {
                if (can(h)) {
                    rest &= payoff(h, who, c, w) >= payoff(h, who ^ 1 << h, c, w);
                } else {
                    rest &= (who >> h & 1) == 0;
                }
            }
            if (rest) {
                rests.add(who);
            }
        }
        return what == 0 ? rests.size() : rests.isEmpty() ? NONE : rests.get(0);
    }

    private int payoff(int h, int who, int c, int w) {
        int there = 0;
        for (int other = 0; other < houses.size(); other++) {
            if ((who >> other & 1) == 1 && can(other)) {
                there |= 1 << liked(now.weights.get(other));
            }
        }
        return w * Integer.bitCount(there) - c * (who >> h & 1);
    }

    // ---- kinds, images

    /** The kinds, as classes over one another. */
    private class Kind {
        int rate(int h) {
            trace += 1;
            return houses.get(h).eats;
        }
    }

    private class Cook extends Kind {
        @Override
        int rate(int h) {
            trace += 10;
            return super.rate(h) + (int) Arrays.stream(now.weights.get(h)).filter(w -> w > 0).count();
        }
    }

    private class Widow extends Kind {
        @Override
        int rate(int h) {
            trace += 100;
            return super.rate(h) - Arrays.stream(now.ate[h]).sum();
        }
    }

    private final class Baker extends Cook {
        @Override
        int rate(int h) {
            trace += 1000;
            return 2 * super.rate(h);
        }
    }

    private final class Parson extends Widow {
        @Override
        int rate(int h) {
            trace += 10000;
            return super.rate(h) + h;
        }
    }

    private final class Newcomer extends Kind {
        @Override
        int rate(int h) {
            trace += 100000;
            return super.rate(h) + now.year;
        }
    }

    int rate(int kind, int h) {
        if (outside(kind, 0, 5) || noHouse(h)) {
            return NO;
        }
        List<Kind> kinds = List.of(new Kind(), new Cook(), new Widow(), new Baker(), new Parson(), new Newcomer());
        return kinds.get(kind).rate(h);
    }

    int keep(int image) {
        if (outside(image, 0, 1)) {
            return BAD;
        }
        images[image] = now.copy();
        return now.year;
    }

    int back(int image) {
        if (outside(image, 0, 1)) {
            return BAD;
        }
        if (images[image] == null) {
            return STATE;
        }
        now = images[image].copy();
        return now.year;
    }

    int count(int what) {
        return switch (what) {
            case 0 -> houses.size();
            case 1 -> now.brought.size();
            case 2 -> Arrays.stream(now.left).sum();
            case 3 -> now.ill.size();
            case 4 -> now.year;
            case 5 -> text.length();
            default -> BAD;
        };
    }

    long trace() {
        return trace;
    }
}
