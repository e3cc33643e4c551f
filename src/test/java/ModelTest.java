import java.util.Random;

/** Runs of calls, by chance but always the same, on the class and on a plain model of it. */
public final class ModelTest {
    private static final Checks C = new Checks();
    private static final int RUNS = 400;
    private static final int CALLS = 512;
    private static final int[] STRANGE = {-1, -2, 4, 6, 7, 9, 32, 33, 99, 100, -1000000,
        Integer.MIN_VALUE, Integer.MAX_VALUE};

    private final Random chance;
    private final EachBrings x = new EachBrings();
    private final Model model = new Model();
    private final int run;

    private ModelTest(int run) {
        this.run = run;
        chance = new Random(run);
    }

    public static void main(String[] args) {
        int runs = args.length > 0 ? Integer.parseInt(args[0]) : RUNS;
        for (int run = 0; run < runs && C.isClean(); run++) {
            new ModelTest(run).go();
        }
        C.end();
    }

    private void go() {
        int calls = 0;
        while (calls < CALLS && C.isClean()) {
            int pick = chance.nextInt(chance.nextInt(4) == 0 ? 40 : 34);
            if (pick == 39 || calls == 0 && run % 8 != 0) {
                calls += tell();
            } else {
                ask(pick);
                calls++;
            }
        }
    }

    /** Types a text, most often one that can stand, and reads it: how many calls. */
    private int tell() {
        String text = text();
        int calls = 0;
        int at = 0;
        while (at < text.length()) {
            int n = Math.min(text.length() - at, chance.nextInt(10) == 0 ? 1 + chance.nextInt(8) : 8);
            long v = chance.nextLong() << 8 * (n - 1) << 8 | Checks.asNumber(text.substring(at, at + n));
            due("type(" + v + ", " + n + ")", x.type(v, n), model.type(v, n));
            at += n;
            calls++;
        }
        due("village() of \"" + text + "\"", x.village(), model.village());
        return calls + 1;
    }

    private String text() {
        StringBuilder text = new StringBuilder();
        int houses = 0;
        int items = chance.nextInt(14);
        for (int i = 0; i < items; i++) {
            int kind = chance.nextInt(12);
            if (kind < 7 && houses < 6 || houses == 0 && kind < 9) {
                houses++;
                text.append("house");
                int zeros = chance.nextInt(4);
                for (int s = 0; s < 4; s++) {
                    text.append(blank()).append(chance.nextInt(4) < zeros ? 0 : chance.nextInt(10));
                }
                text.append(blank()).append(1 + chance.nextInt(9)).append(';');
            } else if (kind < 9) {
                text.append("bar").append(blank()).append(chance.nextInt(Math.max(1, houses)));
                text.append(blank()).append(chance.nextInt(4)).append(';');
            } else {
                rule(text, kind);
            }
        }
        int spoiled = chance.nextInt(4) == 0 ? 1 + chance.nextInt(2) : 0;
        for (int i = 0; i < spoiled && text.length() > 0; i++) {
            spoil(text);
        }
        return text.toString();
    }

    private void rule(StringBuilder text, int kind) {
        String word = kind == 9 ? "law" : kind == 10 ? "pride" : "memory";
        boolean again = text.indexOf(word) >= 0;
        if (!again || chance.nextInt(20) == 0) {
            text.append(word).append(blank()).append(chance.nextInt(word.equals("law") ? 3 : 10)).append(';');
        }
    }

    private String blank() {
        return chance.nextInt(30) == 0 ? "  " : " ";
    }

    private void spoil(StringBuilder text) {
        int at = chance.nextInt(text.length());
        String signs = "0123456789 ;;abehlmoprsuwy/:`{A\0\t";
        char sign = chance.nextInt(20) == 0 ? (char) chance.nextInt(256) : signs.charAt(chance.nextInt(signs.length()));
        switch (chance.nextInt(4)) {
            case 0 -> text.setCharAt(at, sign);
            case 1 -> text.insert(at, sign);
            case 2 -> text.deleteCharAt(at);
            default -> text.setLength(at);
        }
    }

    /** A number from 0 to most, most often; else one just beyond, or far. */
    private int upTo(int most) {
        int kind = chance.nextInt(40);
        return kind == 0 ? most + 1 : kind == 1 ? STRANGE[chance.nextInt(STRANGE.length)] : chance.nextInt(most + 1);
    }

    private void ask(int pick) {
        int h = upTo(Math.max(0, model.count(0) - 1));
        int s = upTo(3);
        switch (pick) {
            case 0, 1 -> due("house", x.house(h, s), model.house(h, s), h, s);
            case 2, 3, 4, 5 -> due("brings", x.brings(h, s), model.brings(h, s), h, s);
            case 6, 7 -> due("evening", x.evening(), model.evening());
            case 8, 9, 10 -> askTable();
            case 11 -> eat();
            case 12, 13 -> due("ate", x.ate(h, s), model.ate(h, s), h, s);
            case 14 -> due("hungry", x.hungry(h), model.hungry(h), h);
            case 15 -> due("year", x.year(), model.year());
            case 16 -> odds(s);
            case 17 -> all();
            case 18 -> due("shared", x.shared(), model.shared());
            case 19, 20 -> swings();
            case 21, 22, 23 -> ill(h);
            case 24, 25 -> due("suspects", x.suspects(), model.suspects());
            case 26 -> rests();
            case 27, 28 -> rate(h);
            case 29 -> keepOrBack();
            case 30, 31 -> count();
            case 32 -> due("trace", x.trace(), model.trace());
            case 33 -> due("house", x.house(h, 6), model.house(h, 6), h, 6);
            default -> askSeldom(pick, h);
        }
    }

    private void askSeldom(int pick, int h) {
        switch (pick) {
            case 34 -> lot();
            case 35 -> told();
            case 36 -> call(h);
            case 37 -> type();
            case 38 -> due("clear", x.clear(), model.clear());
            default -> all();
        }
    }

    private void askTable() {
        int s = upTo(3);
        int what = upTo(2);
        due("table", x.table(s, what), model.table(s, what), s, what);
    }

    private void eat() {
        int way = upTo(1);
        due("eat", x.eat(way), model.eat(way), way);
    }

    private void odds(int s) {
        int k = upTo(6);
        int what = upTo(1);
        due("odds", x.odds(s, k, what), model.odds(s, k, what), s, k, what);
    }

    private void all() {
        int what = upTo(1);
        due("all", x.all(what), model.all(what), what);
    }

    private void swings() {
        int what = upTo(1);
        due("swings", x.swings(what), model.swings(what), what);
    }

    private void ill(int h) {
        int is = upTo(1);
        due("ill", x.ill(h, is), model.ill(h, is), h, is);
    }

    private void rests() {
        int c = upTo(99);
        int w = chance.nextInt(3) == 0 ? c : upTo(99);
        int what = upTo(1);
        due("rests", x.rests(c, w, what), model.rests(c, w, what), c, w, what);
    }

    private void rate(int h) {
        int kind = upTo(5);
        due("rate", x.rate(kind, h), model.rate(kind, h), kind, h);
    }

    private void keepOrBack() {
        int image = upTo(1);
        if (chance.nextBoolean()) {
            due("keep", x.keep(image), model.keep(image), image);
        } else {
            due("back", x.back(image), model.back(image), image);
        }
    }

    private void count() {
        int what = upTo(5);
        due("count", x.count(what), model.count(what), what);
    }

    private void lot() {
        int v = chance.nextInt();
        due("lot", x.lot(v), model.lot(v), v);
    }

    private void told() {
        int what = upTo(2);
        due("told", x.told(what), model.told(what), what);
    }

    private void call(int house) {
        int b = upTo(99);
        int a = chance.nextInt(10) == 0 ? upTo(99) : b > 0 && b < 100 ? chance.nextInt(b + 1) : b;
        int h = chance.nextInt(3) == 0 ? -1 : house;
        due("call", x.call(a, b, h), model.call(a, b, h), a, b, h);
    }

    private void type() {
        int n = upTo(8);
        long v = chance.nextLong();
        due("type", x.type(v, n), model.type(v, n), n);
    }

    private void due(String call, long got, long want, int... arguments) {
        C.due("run " + run + ": " + call + " " + java.util.Arrays.toString(arguments), got, want);
    }
}
