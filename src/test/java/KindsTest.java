/** Promises 20 to 27: who fell ill, thrift, kinds, images, counts, the trace. */
public final class KindsTest {
    private static final Checks C = new Checks();
    private static final int BAD = EachBrings.BAD, STATE = EachBrings.STATE, NO = EachBrings.NO;

    public static void main(String[] args) {
        ill();
        suspects();
        restsOfOneSort();
        restsOfMoreSorts();
        restsRefused();
        rates();
        ratesRefused();
        images();
        imagesKeepAll();
        imagesKeepNothingElse();
        imagesRefused();
        counts();
        C.end();
    }

    private static void ill() {
        EachBrings x = Checks.village("house 1 0 0 0 2;house 0 1 0 0 2;");
        C.due("ill(0, 1) ahead of eating", x.ill(0, 1), STATE);
        C.due("ill(2, 1) ahead of eating", x.ill(2, 1), BAD);
        C.due("ill(0, 2) ahead of eating", x.ill(0, 2), BAD);
        x.eat(0);
        C.due("ill(-1, 1)", x.ill(-1, 1), BAD);
        C.due("ill(2, 1)", x.ill(2, 1), BAD);
        C.due("ill(0, -1)", x.ill(0, -1), BAD);
        C.due("ill(0, 2)", x.ill(0, 2), BAD);
        C.due("count(3)", x.count(3), 0);
        C.due("ill(0, 0)", x.ill(0, 0), 1);
        C.due("ill(0, 0) again", x.ill(0, 0), 0);
        C.due("count(3)", x.count(3), 1);
        C.due("ill(0, 1)", x.ill(0, 1), 1);
        C.due("ill(0, 1) again", x.ill(0, 1), 0);
        C.due("ill(0, 0) once more", x.ill(0, 0), 1);
        C.due("count(3)", x.count(3), 1);
        C.due("ill(1, 1)", x.ill(1, 1), 1);
        C.due("count(3)", x.count(3), 2);
    }

    private static void suspects() {
        EachBrings x = Checks.village("house 1 0 0 0 4;house 0 1 0 0 4;house 0 0 1 0 4;"
                + "bar 0 2;bar 1 0;bar 2 0;bar 2 1;");
        x.evening();
        x.eat(0);
        // House 0 ate 2 2 0 0, house 1 ate 0 1 3 0, house 2 the last 0 0 1 0.
        C.due("none is told", x.suspects(), 15);
        x.ill(0, 1);
        C.due("0 is ill", x.suspects(), 3);
        x.ill(1, 1);
        C.due("0 and 1 are ill", x.suspects(), 2);
        x.ill(0, 0);
        C.due("1 is ill, 0 is well", x.suspects(), 4);
        x.ill(2, 0);
        C.due("2 is well too", x.suspects(), 0);
        x.ill(1, 0);
        C.due("all are well", x.suspects(), 8);
        x.year();
        C.due("a year later", x.suspects(), 15);
    }

    private static void restsOfOneSort() {
        EachBrings x = Checks.village("house 1 0 0 0 1;house 9 9 0 0 1;house 0 0 0 0 1;house 2 1 2 2 1;");
        C.due("cost below worth", x.rests(1, 2, 0), 3);
        C.due("cost below worth", x.rests(1, 2, 1), 1);
        C.due("cost is worth", x.rests(2, 2, 0), 4);
        C.due("cost is worth", x.rests(2, 2, 1), 0);
        C.due("cost above worth", x.rests(3, 2, 0), 1);
        C.due("cost above worth", x.rests(3, 2, 1), 0);
    }

    private static void restsOfMoreSorts() {
        // Sorts 1, 1, 2, 3, 3: one of two, one, one of two.
        String text = "house 0 0 0 0 1;house 3 4 4 0 1;house 0 1 0 0 1;house 0 0 9 8 1;house 0 0 0 1 1;house 0 1 0 2 1;";
        EachBrings x = Checks.village(text);
        C.due("cost below worth", x.rests(98, 99, 0), 4);
        C.due("the least bits", x.rests(98, 99, 1), 2 + 8 + 16);
        C.due("cost is worth", x.rests(99, 99, 0), 3 * 2 * 3);
        x.brings(2, 1);
        C.due("what was brought is nothing to it", x.rests(98, 99, 1), 26);
        C.due("no house", new EachBrings().rests(1, 2, 0), 1);
        C.due("no house", new EachBrings().rests(1, 2, 1), 0);
        // Weights as they are: a year makes sort 2 of house 3 as great as ever, and 1 of house 5 9.
        for (int i = 0; i < 9; i++) {
            x.year();
        }
        C.due("all weights are 9 then: sorts 0, 1, 2, 3, 1", x.rests(1, 2, 0), 2);
        C.due("all weights are 9 then", x.rests(1, 2, 1), 2 + 4 + 8 + 16);
    }

    private static void restsRefused() {
        EachBrings x = Checks.village("house 1 0 0 0 1;");
        int[][] bad = {{0, 1, 0}, {100, 1, 0}, {1, 0, 0}, {1, 100, 0}, {1, 1, -1}, {1, 1, 2}, {-1, -1, 0}};
        for (int[] b : bad) {
            C.due("rests(" + b[0] + ", " + b[1] + ", " + b[2] + ")", x.rests(b[0], b[1], b[2]), BAD);
        }
        C.due("rests(99, 99, 0)", x.rests(99, 99, 0), 2);
        C.due("rests(1, 1, 0)", x.rests(1, 1, 0), 2);
        C.due("rests(99, 1, 0)", x.rests(99, 1, 0), 1);
        C.due("rests(1, 99, 1)", x.rests(1, 99, 1), 1);
    }

    private static void rates() {
        EachBrings x = Checks.village("house 1 0 3 0 4;house 1 1 1 0 7;house 0 0 0 0 9;law 1;");
        x.year();
        x.year();
        x.evening();
        x.eat(1);
        // House 2 eats 9 of the 11 spoons, house 1 the last 2.
        int[][] due = {{4, 6, 4, 12, 4, 6}, {7, 10, 5, 20, 6, 9}, {9, 9, 0, 18, 2, 11}};
        long[] trace = {1, 11, 101, 1011, 10101, 100001};
        long sum = 0;
        for (int h = 0; h < 3; h++) {
            for (int kind = 0; kind < 6; kind++) {
                C.due("rate(" + kind + ", " + h + ")", x.rate(kind, h), due[h][kind]);
                sum += trace[kind];
                C.due("trace()", x.trace(), sum);
            }
        }
    }

    private static void ratesRefused() {
        EachBrings x = Checks.village("house 1 0 3 0 4;");
        C.due("rate(-1, 0)", x.rate(-1, 0), NO);
        C.due("rate(6, 0)", x.rate(6, 0), NO);
        C.due("rate(0, -1)", x.rate(0, -1), NO);
        C.due("rate(0, 1)", x.rate(0, 1), NO);
        C.due("rate(0, 6)", x.rate(0, 6), NO);
        C.due("trace()", x.trace(), 0);
        C.due("rate(5, 0)", x.rate(5, 0), 4);
        C.due("trace()", x.trace(), 100001);
        C.due("a weight of 1 is enough", x.rate(1, 0), 6);
    }

    private static void images() {
        EachBrings x = Checks.village("house 3 3 3 3 4;house 3 3 3 3 4;");
        C.due("keep(0)", x.keep(0), 0);
        x.year();
        C.due("keep(1)", x.keep(1), 1);
        x.year();
        C.due("house(0, 0)", x.house(0, 0), 5);
        C.due("back(1)", x.back(1), 1);
        C.due("house(0, 0)", x.house(0, 0), 4);
        C.due("count(4)", x.count(4), 1);
        C.due("back(0)", x.back(0), 0);
        C.due("house(0, 0)", x.house(0, 0), 3);
        x.year();
        x.year();
        C.due("keep(0) anew", x.keep(0), 2);
        x.year();
        C.due("back(0)", x.back(0), 2);
        C.due("house(1, 3)", x.house(1, 3), 5);
        // An image stays as it was kept, whatever comes behind going back.
        x.evening();
        x.year();
        C.due("back(0) again", x.back(0), 2);
        C.due("count(1)", x.count(1), 0);
        C.due("house(1, 3)", x.house(1, 3), 5);
        C.due("back(1)", x.back(1), 1);
    }

    private static void imagesKeepAll() {
        EachBrings x = Checks.village("house 1 0 0 0 4;house 0 1 0 0 4;law 1;");
        x.lot(42);
        x.brings(0, 0);
        x.keep(0);
        x.brings(1, 1);
        x.eat(0);
        x.ill(0, 1);
        x.ill(1, 0);
        int ateThen = x.ate(0, 0);
        int suspectsThen = x.suspects();
        C.holds("there is something to keep", ateThen > 0 && x.lot(43) == 42);
        x.keep(1);
        x.year();
        x.lot(44);
        C.due("back(1)", x.back(1), 0);
        C.due("lot(43)", x.lot(43), 43);
        C.due("count(1)", x.count(1), 2);
        C.due("count(3)", x.count(3), 2);
        C.due("house(1, 6)", x.house(1, 6), 1);
        C.due("ate(0, 0)", x.ate(0, 0), ateThen);
        C.due("suspects()", x.suspects(), suspectsThen);
        C.due("hungry(0)", x.hungry(0), 0);
        C.due("eat(0)", x.eat(0), STATE);
        C.due("count(2)", x.count(2), 0);
        C.due("back(0)", x.back(0), 0);
        C.due("lot(1)", x.lot(1), 42);
        C.due("hungry(0)", x.hungry(0), STATE);
        C.due("count(1)", x.count(1), 1);
        C.due("count(2)", x.count(2), 4);
        C.due("count(3)", x.count(3), 0);
        C.due("table(0, 1)", x.table(0, 1), 4);
        C.due("brings(1, 1)", x.brings(1, 1), 4);
        C.due("eat(0)", x.eat(0), 8);
    }

    private static void imagesKeepNothingElse() {
        EachBrings x = Checks.village("house 1 0 0 0 4;law 1;");
        Checks.type(x, "abc");
        x.keep(0);
        x.keep(1);
        Checks.type(x, "def");
        x.rate(3, 0);
        x.year();
        x.back(0);
        C.due("the text is no part", x.count(5), 6);
        C.due("the trace is no part", x.trace(), 1011);
        C.due("the law is no part", x.told(0), 1);
        C.due("the other image is no part", x.back(1), 0);
    }

    private static void imagesRefused() {
        EachBrings x = new EachBrings();
        C.due("keep(-1)", x.keep(-1), BAD);
        C.due("keep(2)", x.keep(2), BAD);
        C.due("back(-1)", x.back(-1), BAD);
        C.due("back(2)", x.back(2), BAD);
        C.due("back(0)", x.back(0), STATE);
        C.due("keep(1)", x.keep(1), 0);
        C.due("back(0)", x.back(0), STATE);
        C.due("back(1)", x.back(1), 0);
        C.due("keep(MAX)", x.keep(Integer.MAX_VALUE), BAD);
        C.due("keep(32)", x.keep(32), BAD);
        C.due("back(33)", x.back(33), BAD);
    }

    private static void counts() {
        EachBrings x = Checks.village("house 1 0 0 0 4;house 0 1 0 0 2;house 0 0 0 0 3;pride 2;");
        Checks.type(x, "abcd");
        x.year();
        x.evening();
        x.eat(0);
        x.ill(2, 0);
        int[] due = {3, 2, 1, 1, 1, 4};
        for (int what = 0; what <= 5; what++) {
            C.due("count(" + what + ")", x.count(what), due[what]);
        }
        C.due("count(-1)", x.count(-1), BAD);
        C.due("count(6)", x.count(6), BAD);
    }
}
